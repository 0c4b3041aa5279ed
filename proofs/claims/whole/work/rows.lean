section
-- ===== PART A: goes FIRST, ahead of the names: the tables' words, and 'selects' of the private methods out of them =====
/-- a private method of a class that the tables say can be made, by its rows of tables_1 -/
def lw_okq (q : MethodName × Nat) : Prop := (q.1.cls ≠ "java/lang/invoke/MethodHandle" ∧ q.1.cls ≠ "java/lang/invoke/VarHandle") ∧ Cond.instantiable q.1.cls q.2 ∈ tables_1 ∧ Cond.privateMethod q.1 ∈ tables_1 ∧ Cond.instanceMethod q.1 ∈ tables_1
theorem lw_p0 : lw_okq (⟨"SilenceBall$Tape", "signAt", "(I)C"⟩, 8) := ⟨⟨by decide +kernel, by decide +kernel⟩, List.mem_of_getElem? (i := 35) (by decide +kernel), List.mem_of_getElem? (i := 458) (by decide +kernel), List.mem_of_getElem? (i := 459) (by decide +kernel)⟩
theorem lw_p1 : lw_okq (⟨"SilenceBall$RoomReader", "readGuest", "(I)Z"⟩, 5) := ⟨⟨by decide +kernel, by decide +kernel⟩, List.mem_of_getElem? (i := 199) (by decide +kernel), List.mem_of_getElem? (i := 584) (by decide +kernel), List.mem_of_getElem? (i := 585) (by decide +kernel)⟩
theorem lw_p2 : lw_okq (⟨"SilenceBall$RoomReader", "readName", "([JI)Z"⟩, 5) := ⟨⟨by decide +kernel, by decide +kernel⟩, List.mem_of_getElem? (i := 199) (by decide +kernel), List.mem_of_getElem? (i := 593) (by decide +kernel), List.mem_of_getElem? (i := 594) (by decide +kernel)⟩
theorem lw_p3 : lw_okq (⟨"SilenceBall$RoomReader", "readKind", "([II)Z"⟩, 5) := ⟨⟨by decide +kernel, by decide +kernel⟩, List.mem_of_getElem? (i := 199) (by decide +kernel), List.mem_of_getElem? (i := 613) (by decide +kernel), List.mem_of_getElem? (i := 614) (by decide +kernel)⟩
theorem lw_p4 : lw_okq (⟨"SilenceBall$RoomReader", "readMeasure", "(III[II)Z"⟩, 5) := ⟨⟨by decide +kernel, by decide +kernel⟩, List.mem_of_getElem? (i := 199) (by decide +kernel), List.mem_of_getElem? (i := 617) (by decide +kernel), List.mem_of_getElem? (i := 618) (by decide +kernel)⟩
theorem lw_p5 : lw_okq (⟨"SilenceBall$RoomReader", "readBelt", "(I)Z"⟩, 5) := ⟨⟨by decide +kernel, by decide +kernel⟩, List.mem_of_getElem? (i := 199) (by decide +kernel), List.mem_of_getElem? (i := 633) (by decide +kernel), List.mem_of_getElem? (i := 634) (by decide +kernel)⟩
theorem lw_p6 : lw_okq (⟨"SilenceBall$RoomReader", "readMan", "(I)Z"⟩, 5) := ⟨⟨by decide +kernel, by decide +kernel⟩, List.mem_of_getElem? (i := 199) (by decide +kernel), List.mem_of_getElem? (i := 637) (by decide +kernel), List.mem_of_getElem? (i := 638) (by decide +kernel)⟩
theorem lw_p7 : lw_okq (⟨"SilenceBall$RoomReader", "readGaps", "()Z"⟩, 5) := ⟨⟨by decide +kernel, by decide +kernel⟩, List.mem_of_getElem? (i := 199) (by decide +kernel), List.mem_of_getElem? (i := 641) (by decide +kernel), List.mem_of_getElem? (i := 642) (by decide +kernel)⟩
theorem lw_p8 : lw_okq (⟨"SilenceBall$RoomReader", "readWater", "()Z"⟩, 5) := ⟨⟨by decide +kernel, by decide +kernel⟩, List.mem_of_getElem? (i := 199) (by decide +kernel), List.mem_of_getElem? (i := 645) (by decide +kernel), List.mem_of_getElem? (i := 646) (by decide +kernel)⟩
theorem lw_p9 : lw_okq (⟨"SilenceBall$RoomReader", "readLaw", "()Z"⟩, 5) := ⟨⟨by decide +kernel, by decide +kernel⟩, List.mem_of_getElem? (i := 199) (by decide +kernel), List.mem_of_getElem? (i := 649) (by decide +kernel), List.mem_of_getElem? (i := 650) (by decide +kernel)⟩
theorem lw_p10 : lw_okq (⟨"SilenceBall$RoomReader", "readE", "(I)Z"⟩, 5) := ⟨⟨by decide +kernel, by decide +kernel⟩, List.mem_of_getElem? (i := 199) (by decide +kernel), List.mem_of_getElem? (i := 653) (by decide +kernel), List.mem_of_getElem? (i := 654) (by decide +kernel)⟩
theorem lw_p11 : lw_okq (⟨"SilenceBall$RoomReader", "readTest", "(I)Z"⟩, 5) := ⟨⟨by decide +kernel, by decide +kernel⟩, List.mem_of_getElem? (i := 199) (by decide +kernel), List.mem_of_getElem? (i := 657) (by decide +kernel), List.mem_of_getElem? (i := 658) (by decide +kernel)⟩
theorem lw_p12 : lw_okq (⟨"SilenceBall$RoomReader", "readSum", "(I)Z"⟩, 5) := ⟨⟨by decide +kernel, by decide +kernel⟩, List.mem_of_getElem? (i := 199) (by decide +kernel), List.mem_of_getElem? (i := 661) (by decide +kernel), List.mem_of_getElem? (i := 662) (by decide +kernel)⟩
theorem lw_p13 : lw_okq (⟨"SilenceBall$RoomReader", "readProduct", "(I)Z"⟩, 5) := ⟨⟨by decide +kernel, by decide +kernel⟩, List.mem_of_getElem? (i := 199) (by decide +kernel), List.mem_of_getElem? (i := 665) (by decide +kernel), List.mem_of_getElem? (i := 666) (by decide +kernel)⟩
theorem lw_p14 : lw_okq (⟨"SilenceBall$RoomReader", "readPart", "(I)Z"⟩, 5) := ⟨⟨by decide +kernel, by decide +kernel⟩, List.mem_of_getElem? (i := 199) (by decide +kernel), List.mem_of_getElem? (i := 669) (by decide +kernel), List.mem_of_getElem? (i := 670) (by decide +kernel)⟩
theorem lw_p15 : lw_okq (⟨"SilenceBall$RoomReader", "write", "(I)Z"⟩, 5) := ⟨⟨by decide +kernel, by decide +kernel⟩, List.mem_of_getElem? (i := 199) (by decide +kernel), List.mem_of_getElem? (i := 674) (by decide +kernel), List.mem_of_getElem? (i := 675) (by decide +kernel)⟩
def lw_privs_1 : List (MethodName × Nat) := [(⟨"SilenceBall$Tape", "signAt", "(I)C"⟩, 8), (⟨"SilenceBall$RoomReader", "readGuest", "(I)Z"⟩, 5), (⟨"SilenceBall$RoomReader", "readName", "([JI)Z"⟩, 5), (⟨"SilenceBall$RoomReader", "readKind", "([II)Z"⟩, 5), (⟨"SilenceBall$RoomReader", "readMeasure", "(III[II)Z"⟩, 5), (⟨"SilenceBall$RoomReader", "readBelt", "(I)Z"⟩, 5), (⟨"SilenceBall$RoomReader", "readMan", "(I)Z"⟩, 5), (⟨"SilenceBall$RoomReader", "readGaps", "()Z"⟩, 5), (⟨"SilenceBall$RoomReader", "readWater", "()Z"⟩, 5), (⟨"SilenceBall$RoomReader", "readLaw", "()Z"⟩, 5), (⟨"SilenceBall$RoomReader", "readE", "(I)Z"⟩, 5), (⟨"SilenceBall$RoomReader", "readTest", "(I)Z"⟩, 5), (⟨"SilenceBall$RoomReader", "readSum", "(I)Z"⟩, 5), (⟨"SilenceBall$RoomReader", "readProduct", "(I)Z"⟩, 5), (⟨"SilenceBall$RoomReader", "readPart", "(I)Z"⟩, 5), (⟨"SilenceBall$RoomReader", "write", "(I)Z"⟩, 5)]
theorem lw_r1 : ∀ q ∈ lw_privs_1, lw_okq q := List.forall_mem_cons.mpr ⟨lw_p0, List.forall_mem_cons.mpr ⟨lw_p1, List.forall_mem_cons.mpr ⟨lw_p2, List.forall_mem_cons.mpr ⟨lw_p3, List.forall_mem_cons.mpr ⟨lw_p4, List.forall_mem_cons.mpr ⟨lw_p5, List.forall_mem_cons.mpr ⟨lw_p6, List.forall_mem_cons.mpr ⟨lw_p7, List.forall_mem_cons.mpr ⟨lw_p8, List.forall_mem_cons.mpr ⟨lw_p9, List.forall_mem_cons.mpr ⟨lw_p10, List.forall_mem_cons.mpr ⟨lw_p11, List.forall_mem_cons.mpr ⟨lw_p12, List.forall_mem_cons.mpr ⟨lw_p13, List.forall_mem_cons.mpr ⟨lw_p14, List.forall_mem_cons.mpr ⟨lw_p15, fun _ h => absurd h List.not_mem_nil⟩⟩⟩⟩⟩⟩⟩⟩⟩⟩⟩⟩⟩⟩⟩⟩
theorem lw_p16 : lw_okq (⟨"SilenceBall$Law", "add", "(I)V"⟩, 4) := ⟨⟨by decide +kernel, by decide +kernel⟩, List.mem_of_getElem? (i := 81) (by decide +kernel), List.mem_of_getElem? (i := 682) (by decide +kernel), List.mem_of_getElem? (i := 683) (by decide +kernel)⟩
theorem lw_p17 : lw_okq (⟨"SilenceBall", "liftMarks", "()V"⟩, 12) := ⟨⟨by decide +kernel, by decide +kernel⟩, List.mem_of_getElem? (i := 27) (by decide +kernel), List.mem_of_getElem? (i := 722) (by decide +kernel), List.mem_of_getElem? (i := 723) (by decide +kernel)⟩
theorem lw_p18 : lw_okq (⟨"SilenceBall$Evening", "readLine", "(LSilenceBall$Tape;LSilenceBall$House;)Z"⟩, 5) := ⟨⟨by decide +kernel, by decide +kernel⟩, List.mem_of_getElem? (i := 224) (by decide +kernel), List.mem_of_getElem? (i := 740) (by decide +kernel), List.mem_of_getElem? (i := 741) (by decide +kernel)⟩
theorem lw_p19 : lw_okq (⟨"SilenceBall$Evening", "readName", "(LSilenceBall$Tape;[JI[I)Z"⟩, 5) := ⟨⟨by decide +kernel, by decide +kernel⟩, List.mem_of_getElem? (i := 224) (by decide +kernel), List.mem_of_getElem? (i := 746) (by decide +kernel), List.mem_of_getElem? (i := 747) (by decide +kernel)⟩
theorem lw_p20 : lw_okq (⟨"SilenceBall$Scene", "wantsBelt", "(I)Z"⟩, 9) := ⟨⟨by decide +kernel, by decide +kernel⟩, List.mem_of_getElem? (i := 247) (by decide +kernel), List.mem_of_getElem? (i := 810) (by decide +kernel), List.mem_of_getElem? (i := 811) (by decide +kernel)⟩
theorem lw_p21 : lw_okq (⟨"SilenceBall$Scene", "drowns", "(I)Z"⟩, 9) := ⟨⟨by decide +kernel, by decide +kernel⟩, List.mem_of_getElem? (i := 247) (by decide +kernel), List.mem_of_getElem? (i := 872) (by decide +kernel), List.mem_of_getElem? (i := 873) (by decide +kernel)⟩
theorem lw_p22 : lw_okq (⟨"SilenceBall$Scene", "comeNearer", "(I)V"⟩, 9) := ⟨⟨by decide +kernel, by decide +kernel⟩, List.mem_of_getElem? (i := 247) (by decide +kernel), List.mem_of_getElem? (i := 888) (by decide +kernel), List.mem_of_getElem? (i := 889) (by decide +kernel)⟩
theorem lw_p23 : lw_okq (⟨"SilenceBall$Scene", "rise", "()V"⟩, 9) := ⟨⟨by decide +kernel, by decide +kernel⟩, List.mem_of_getElem? (i := 247) (by decide +kernel), List.mem_of_getElem? (i := 892) (by decide +kernel), List.mem_of_getElem? (i := 893) (by decide +kernel)⟩
theorem lw_p24 : lw_okq (⟨"SilenceBall$Law", "push", "(I)V"⟩, 4) := ⟨⟨by decide +kernel, by decide +kernel⟩, List.mem_of_getElem? (i := 81) (by decide +kernel), List.mem_of_getElem? (i := 914) (by decide +kernel), List.mem_of_getElem? (i := 915) (by decide +kernel)⟩
theorem lw_p25 : lw_okq (⟨"SilenceBall$Law", "pop", "()I"⟩, 4) := ⟨⟨by decide +kernel, by decide +kernel⟩, List.mem_of_getElem? (i := 81) (by decide +kernel), List.mem_of_getElem? (i := 918) (by decide +kernel), List.mem_of_getElem? (i := 919) (by decide +kernel)⟩
theorem lw_p26 : lw_okq (⟨"SilenceBall$Evening", "play", "(ILSilenceBall$Scene;)I"⟩, 5) := ⟨⟨by decide +kernel, by decide +kernel⟩, List.mem_of_getElem? (i := 224) (by decide +kernel), List.mem_of_getElem? (i := 944) (by decide +kernel), List.mem_of_getElem? (i := 945) (by decide +kernel)⟩
theorem lw_p27 : lw_okq (⟨"SilenceBall", "goAhead", "(I)V"⟩, 12) := ⟨⟨by decide +kernel, by decide +kernel⟩, List.mem_of_getElem? (i := 27) (by decide +kernel), List.mem_of_getElem? (i := 978) (by decide +kernel), List.mem_of_getElem? (i := 979) (by decide +kernel)⟩
theorem lw_p28 : lw_okq (⟨"SilenceBall", "minutesUntil", "(II)I"⟩, 12) := ⟨⟨by decide +kernel, by decide +kernel⟩, List.mem_of_getElem? (i := 27) (by decide +kernel), List.mem_of_getElem? (i := 991) (by decide +kernel), List.mem_of_getElem? (i := 992) (by decide +kernel)⟩
theorem lw_p29 : lw_okq (⟨"SilenceBall$Rescue", "chooseGuests", "(II)V"⟩, 7) := ⟨⟨by decide +kernel, by decide +kernel⟩, List.mem_of_getElem? (i := 358) (by decide +kernel), List.mem_of_getElem? (i := 1046) (by decide +kernel), List.mem_of_getElem? (i := 1047) (by decide +kernel)⟩
theorem lw_p30 : lw_okq (⟨"SilenceBall$Rescue", "chooseBelts", "(II)Z"⟩, 7) := ⟨⟨by decide +kernel, by decide +kernel⟩, List.mem_of_getElem? (i := 358) (by decide +kernel), List.mem_of_getElem? (i := 1052) (by decide +kernel), List.mem_of_getElem? (i := 1053) (by decide +kernel)⟩
theorem lw_p31 : lw_okq (⟨"SilenceBall$Rescue", "keepTried", "(I)V"⟩, 7) := ⟨⟨by decide +kernel, by decide +kernel⟩, List.mem_of_getElem? (i := 358) (by decide +kernel), List.mem_of_getElem? (i := 1057) (by decide +kernel), List.mem_of_getElem? (i := 1058) (by decide +kernel)⟩
def lw_privs_2 : List (MethodName × Nat) := [(⟨"SilenceBall$Law", "add", "(I)V"⟩, 4), (⟨"SilenceBall", "liftMarks", "()V"⟩, 12), (⟨"SilenceBall$Evening", "readLine", "(LSilenceBall$Tape;LSilenceBall$House;)Z"⟩, 5), (⟨"SilenceBall$Evening", "readName", "(LSilenceBall$Tape;[JI[I)Z"⟩, 5), (⟨"SilenceBall$Scene", "wantsBelt", "(I)Z"⟩, 9), (⟨"SilenceBall$Scene", "drowns", "(I)Z"⟩, 9), (⟨"SilenceBall$Scene", "comeNearer", "(I)V"⟩, 9), (⟨"SilenceBall$Scene", "rise", "()V"⟩, 9), (⟨"SilenceBall$Law", "push", "(I)V"⟩, 4), (⟨"SilenceBall$Law", "pop", "()I"⟩, 4), (⟨"SilenceBall$Evening", "play", "(ILSilenceBall$Scene;)I"⟩, 5), (⟨"SilenceBall", "goAhead", "(I)V"⟩, 12), (⟨"SilenceBall", "minutesUntil", "(II)I"⟩, 12), (⟨"SilenceBall$Rescue", "chooseGuests", "(II)V"⟩, 7), (⟨"SilenceBall$Rescue", "chooseBelts", "(II)Z"⟩, 7), (⟨"SilenceBall$Rescue", "keepTried", "(I)V"⟩, 7)]
theorem lw_r2 : ∀ q ∈ lw_privs_2, lw_okq q := List.forall_mem_cons.mpr ⟨lw_p16, List.forall_mem_cons.mpr ⟨lw_p17, List.forall_mem_cons.mpr ⟨lw_p18, List.forall_mem_cons.mpr ⟨lw_p19, List.forall_mem_cons.mpr ⟨lw_p20, List.forall_mem_cons.mpr ⟨lw_p21, List.forall_mem_cons.mpr ⟨lw_p22, List.forall_mem_cons.mpr ⟨lw_p23, List.forall_mem_cons.mpr ⟨lw_p24, List.forall_mem_cons.mpr ⟨lw_p25, List.forall_mem_cons.mpr ⟨lw_p26, List.forall_mem_cons.mpr ⟨lw_p27, List.forall_mem_cons.mpr ⟨lw_p28, List.forall_mem_cons.mpr ⟨lw_p29, List.forall_mem_cons.mpr ⟨lw_p30, List.forall_mem_cons.mpr ⟨lw_p31, fun _ h => absurd h List.not_mem_nil⟩⟩⟩⟩⟩⟩⟩⟩⟩⟩⟩⟩⟩⟩⟩⟩
theorem lw_p32 : lw_okq (⟨"SilenceBall$House", "beltsFrom", "(II)I"⟩, 17) := ⟨⟨by decide +kernel, by decide +kernel⟩, List.mem_of_getElem? (i := 75) (by decide +kernel), List.mem_of_getElem? (i := 1076) (by decide +kernel), List.mem_of_getElem? (i := 1077) (by decide +kernel)⟩
theorem lw_p33 : lw_okq (⟨"SilenceBall$House", "guestsFrom", "(II)I"⟩, 17) := ⟨⟨by decide +kernel, by decide +kernel⟩, List.mem_of_getElem? (i := 75) (by decide +kernel), List.mem_of_getElem? (i := 1080) (by decide +kernel), List.mem_of_getElem? (i := 1081) (by decide +kernel)⟩
theorem lw_p34 : lw_okq (⟨"SilenceBall", "isSavedBy", "(III)Z"⟩, 12) := ⟨⟨by decide +kernel, by decide +kernel⟩, List.mem_of_getElem? (i := 27) (by decide +kernel), List.mem_of_getElem? (i := 1137) (by decide +kernel), List.mem_of_getElem? (i := 1138) (by decide +kernel)⟩
theorem lw_p35 : lw_okq (⟨"SilenceBall$Inquest", "mostAlike", "(II)I"⟩, 1) := ⟨⟨by decide +kernel, by decide +kernel⟩, List.mem_of_getElem? (i := 348) (by decide +kernel), List.mem_of_getElem? (i := 1185) (by decide +kernel), List.mem_of_getElem? (i := 1186) (by decide +kernel)⟩
theorem lw_p36 : lw_okq (⟨"SilenceBall$Inquest", "manyAsDeep", "(III)I"⟩, 1) := ⟨⟨by decide +kernel, by decide +kernel⟩, List.mem_of_getElem? (i := 348) (by decide +kernel), List.mem_of_getElem? (i := 1190) (by decide +kernel), List.mem_of_getElem? (i := 1191) (by decide +kernel)⟩
theorem lw_p37 : lw_okq (⟨"SilenceBall", "isSunkBy", "(III)Z"⟩, 12) := ⟨⟨by decide +kernel, by decide +kernel⟩, List.mem_of_getElem? (i := 27) (by decide +kernel), List.mem_of_getElem? (i := 1202) (by decide +kernel), List.mem_of_getElem? (i := 1203) (by decide +kernel)⟩
theorem lw_p38 : lw_okq (⟨"SilenceBall", "playBalls", "(II)I"⟩, 12) := ⟨⟨by decide +kernel, by decide +kernel⟩, List.mem_of_getElem? (i := 27) (by decide +kernel), List.mem_of_getElem? (i := 1210) (by decide +kernel), List.mem_of_getElem? (i := 1211) (by decide +kernel)⟩
theorem lw_p39 : lw_okq (⟨"SilenceBall", "dance", "(IIII)I"⟩, 12) := ⟨⟨by decide +kernel, by decide +kernel⟩, List.mem_of_getElem? (i := 27) (by decide +kernel), List.mem_of_getElem? (i := 1224) (by decide +kernel), List.mem_of_getElem? (i := 1225) (by decide +kernel)⟩
theorem lw_p40 : lw_okq (⟨"java/lang/Throwable", "fillInStackTrace", "(I)Ljava/lang/Throwable;"⟩, 6) := ⟨⟨by decide +kernel, by decide +kernel⟩, List.mem_of_getElem? (i := 1298) (by decide +kernel), List.mem_of_getElem? (i := 1296) (by decide +kernel), List.mem_of_getElem? (i := 1297) (by decide +kernel)⟩
theorem lw_p41 : lw_okq (⟨"SilenceBallModel", "lay", "(J)V"⟩, 34) := ⟨⟨by decide +kernel, by decide +kernel⟩, List.mem_of_getElem? (i := 1336) (by decide +kernel), List.mem_of_getElem? (i := 1334) (by decide +kernel), List.mem_of_getElem? (i := 1335) (by decide +kernel)⟩
theorem lw_p42 : lw_okq (⟨"SilenceBallModel", "standsAsAlways", "(I)V"⟩, 34) := ⟨⟨by decide +kernel, by decide +kernel⟩, List.mem_of_getElem? (i := 1336) (by decide +kernel), List.mem_of_getElem? (i := 1371) (by decide +kernel), List.mem_of_getElem? (i := 1372) (by decide +kernel)⟩
theorem lw_p43 : lw_okq (⟨"SilenceBallModel", "begins", "()V"⟩, 34) := ⟨⟨by decide +kernel, by decide +kernel⟩, List.mem_of_getElem? (i := 1336) (by decide +kernel), List.mem_of_getElem? (i := 1375) (by decide +kernel), List.mem_of_getElem? (i := 1376) (by decide +kernel)⟩
theorem lw_p44 : lw_okq (⟨"SilenceBallModel", "starts", "(I)V"⟩, 34) := ⟨⟨by decide +kernel, by decide +kernel⟩, List.mem_of_getElem? (i := 1336) (by decide +kernel), List.mem_of_getElem? (i := 1379) (by decide +kernel), List.mem_of_getElem? (i := 1380) (by decide +kernel)⟩
theorem lw_p45 : lw_okq (⟨"SilenceBallModel", "guests", "()I"⟩, 34) := ⟨⟨by decide +kernel, by decide +kernel⟩, List.mem_of_getElem? (i := 1336) (by decide +kernel), List.mem_of_getElem? (i := 1383) (by decide +kernel), List.mem_of_getElem? (i := 1384) (by decide +kernel)⟩
theorem lw_p46 : lw_okq (⟨"SilenceBallModel", "guestOf", "(II)I"⟩, 34) := ⟨⟨by decide +kernel, by decide +kernel⟩, List.mem_of_getElem? (i := 1336) (by decide +kernel), List.mem_of_getElem? (i := 1387) (by decide +kernel), List.mem_of_getElem? (i := 1388) (by decide +kernel)⟩
theorem lw_p47 : lw_okq (⟨"SilenceBallModel", "cutAll", "()V"⟩, 34) := ⟨⟨by decide +kernel, by decide +kernel⟩, List.mem_of_getElem? (i := 1336) (by decide +kernel), List.mem_of_getElem? (i := 1499) (by decide +kernel), List.mem_of_getElem? (i := 1500) (by decide +kernel)⟩
def lw_privs_3 : List (MethodName × Nat) := [(⟨"SilenceBall$House", "beltsFrom", "(II)I"⟩, 17), (⟨"SilenceBall$House", "guestsFrom", "(II)I"⟩, 17), (⟨"SilenceBall", "isSavedBy", "(III)Z"⟩, 12), (⟨"SilenceBall$Inquest", "mostAlike", "(II)I"⟩, 1), (⟨"SilenceBall$Inquest", "manyAsDeep", "(III)I"⟩, 1), (⟨"SilenceBall", "isSunkBy", "(III)Z"⟩, 12), (⟨"SilenceBall", "playBalls", "(II)I"⟩, 12), (⟨"SilenceBall", "dance", "(IIII)I"⟩, 12), (⟨"java/lang/Throwable", "fillInStackTrace", "(I)Ljava/lang/Throwable;"⟩, 6), (⟨"SilenceBallModel", "lay", "(J)V"⟩, 34), (⟨"SilenceBallModel", "standsAsAlways", "(I)V"⟩, 34), (⟨"SilenceBallModel", "begins", "()V"⟩, 34), (⟨"SilenceBallModel", "starts", "(I)V"⟩, 34), (⟨"SilenceBallModel", "guests", "()I"⟩, 34), (⟨"SilenceBallModel", "guestOf", "(II)I"⟩, 34), (⟨"SilenceBallModel", "cutAll", "()V"⟩, 34)]
theorem lw_r3 : ∀ q ∈ lw_privs_3, lw_okq q := List.forall_mem_cons.mpr ⟨lw_p32, List.forall_mem_cons.mpr ⟨lw_p33, List.forall_mem_cons.mpr ⟨lw_p34, List.forall_mem_cons.mpr ⟨lw_p35, List.forall_mem_cons.mpr ⟨lw_p36, List.forall_mem_cons.mpr ⟨lw_p37, List.forall_mem_cons.mpr ⟨lw_p38, List.forall_mem_cons.mpr ⟨lw_p39, List.forall_mem_cons.mpr ⟨lw_p40, List.forall_mem_cons.mpr ⟨lw_p41, List.forall_mem_cons.mpr ⟨lw_p42, List.forall_mem_cons.mpr ⟨lw_p43, List.forall_mem_cons.mpr ⟨lw_p44, List.forall_mem_cons.mpr ⟨lw_p45, List.forall_mem_cons.mpr ⟨lw_p46, List.forall_mem_cons.mpr ⟨lw_p47, fun _ h => absurd h List.not_mem_nil⟩⟩⟩⟩⟩⟩⟩⟩⟩⟩⟩⟩⟩⟩⟩⟩
theorem lw_p48 : lw_okq (⟨"SilenceBallModel", "readLine", "()V"⟩, 34) := ⟨⟨by decide +kernel, by decide +kernel⟩, List.mem_of_getElem? (i := 1336) (by decide +kernel), List.mem_of_getElem? (i := 1518) (by decide +kernel), List.mem_of_getElem? (i := 1519) (by decide +kernel)⟩
theorem lw_p49 : lw_okq (⟨"SilenceBallModel", "isWord", "(I)Z"⟩, 34) := ⟨⟨by decide +kernel, by decide +kernel⟩, List.mem_of_getElem? (i := 1336) (by decide +kernel), List.mem_of_getElem? (i := 1522) (by decide +kernel), List.mem_of_getElem? (i := 1523) (by decide +kernel)⟩
theorem lw_p50 : lw_okq (⟨"SilenceBallModel", "readGuest", "()V"⟩, 34) := ⟨⟨by decide +kernel, by decide +kernel⟩, List.mem_of_getElem? (i := 1336) (by decide +kernel), List.mem_of_getElem? (i := 1526) (by decide +kernel), List.mem_of_getElem? (i := 1527) (by decide +kernel)⟩
theorem lw_p51 : lw_okq (⟨"SilenceBallModel", "readName", "(III)V"⟩, 34) := ⟨⟨by decide +kernel, by decide +kernel⟩, List.mem_of_getElem? (i := 1336) (by decide +kernel), List.mem_of_getElem? (i := 1530) (by decide +kernel), List.mem_of_getElem? (i := 1531) (by decide +kernel)⟩
theorem lw_p52 : lw_okq (⟨"SilenceBallModel", "wrong", "(I)V"⟩, 34) := ⟨⟨by decide +kernel, by decide +kernel⟩, List.mem_of_getElem? (i := 1336) (by decide +kernel), List.mem_of_getElem? (i := 1534) (by decide +kernel), List.mem_of_getElem? (i := 1535) (by decide +kernel)⟩
theorem lw_p53 : lw_okq (⟨"SilenceBallModel", "isName", "()Z"⟩, 34) := ⟨⟨by decide +kernel, by decide +kernel⟩, List.mem_of_getElem? (i := 1336) (by decide +kernel), List.mem_of_getElem? (i := 1538) (by decide +kernel), List.mem_of_getElem? (i := 1539) (by decide +kernel)⟩
theorem lw_p54 : lw_okq (⟨"SilenceBallModel", "wordHere", "(II)I"⟩, 34) := ⟨⟨by decide +kernel, by decide +kernel⟩, List.mem_of_getElem? (i := 1336) (by decide +kernel), List.mem_of_getElem? (i := 1542) (by decide +kernel), List.mem_of_getElem? (i := 1543) (by decide +kernel)⟩
theorem lw_p55 : lw_okq (⟨"SilenceBallModel", "nameAt", "(Z)I"⟩, 34) := ⟨⟨by decide +kernel, by decide +kernel⟩, List.mem_of_getElem? (i := 1336) (by decide +kernel), List.mem_of_getElem? (i := 1546) (by decide +kernel), List.mem_of_getElem? (i := 1547) (by decide +kernel)⟩
theorem lw_p56 : lw_okq (⟨"SilenceBallModel", "takeOne", "(II)I"⟩, 34) := ⟨⟨by decide +kernel, by decide +kernel⟩, List.mem_of_getElem? (i := 1336) (by decide +kernel), List.mem_of_getElem? (i := 1550) (by decide +kernel), List.mem_of_getElem? (i := 1551) (by decide +kernel)⟩
theorem lw_p57 : lw_okq (⟨"SilenceBallModel", "takeAfter", "(III)I"⟩, 34) := ⟨⟨by decide +kernel, by decide +kernel⟩, List.mem_of_getElem? (i := 1336) (by decide +kernel), List.mem_of_getElem? (i := 1554) (by decide +kernel), List.mem_of_getElem? (i := 1555) (by decide +kernel)⟩
theorem lw_p58 : lw_okq (⟨"SilenceBallModel", "takeWord", "(I)V"⟩, 34) := ⟨⟨by decide +kernel, by decide +kernel⟩, List.mem_of_getElem? (i := 1336) (by decide +kernel), List.mem_of_getElem? (i := 1558) (by decide +kernel), List.mem_of_getElem? (i := 1559) (by decide +kernel)⟩
theorem lw_p59 : lw_okq (⟨"SilenceBallModel", "hasWord", "(I)Z"⟩, 34) := ⟨⟨by decide +kernel, by decide +kernel⟩, List.mem_of_getElem? (i := 1336) (by decide +kernel), List.mem_of_getElem? (i := 1562) (by decide +kernel), List.mem_of_getElem? (i := 1563) (by decide +kernel)⟩
theorem lw_p60 : lw_okq (⟨"SilenceBallModel", "takeNumber", "(II)I"⟩, 34) := ⟨⟨by decide +kernel, by decide +kernel⟩, List.mem_of_getElem? (i := 1336) (by decide +kernel), List.mem_of_getElem? (i := 1566) (by decide +kernel), List.mem_of_getElem? (i := 1567) (by decide +kernel)⟩
theorem lw_p61 : lw_okq (⟨"SilenceBallModel", "readOnce", "()V"⟩, 34) := ⟨⟨by decide +kernel, by decide +kernel⟩, List.mem_of_getElem? (i := 1336) (by decide +kernel), List.mem_of_getElem? (i := 1570) (by decide +kernel), List.mem_of_getElem? (i := 1571) (by decide +kernel)⟩
theorem lw_p62 : lw_okq (⟨"SilenceBallModel", "whole", "(I)V"⟩, 34) := ⟨⟨by decide +kernel, by decide +kernel⟩, List.mem_of_getElem? (i := 1336) (by decide +kernel), List.mem_of_getElem? (i := 1574) (by decide +kernel), List.mem_of_getElem? (i := 1575) (by decide +kernel)⟩
theorem lw_p63 : lw_okq (⟨"SilenceBallModel", "test", "(I)V"⟩, 34) := ⟨⟨by decide +kernel, by decide +kernel⟩, List.mem_of_getElem? (i := 1336) (by decide +kernel), List.mem_of_getElem? (i := 1578) (by decide +kernel), List.mem_of_getElem? (i := 1579) (by decide +kernel)⟩
def lw_privs_4 : List (MethodName × Nat) := [(⟨"SilenceBallModel", "readLine", "()V"⟩, 34), (⟨"SilenceBallModel", "isWord", "(I)Z"⟩, 34), (⟨"SilenceBallModel", "readGuest", "()V"⟩, 34), (⟨"SilenceBallModel", "readName", "(III)V"⟩, 34), (⟨"SilenceBallModel", "wrong", "(I)V"⟩, 34), (⟨"SilenceBallModel", "isName", "()Z"⟩, 34), (⟨"SilenceBallModel", "wordHere", "(II)I"⟩, 34), (⟨"SilenceBallModel", "nameAt", "(Z)I"⟩, 34), (⟨"SilenceBallModel", "takeOne", "(II)I"⟩, 34), (⟨"SilenceBallModel", "takeAfter", "(III)I"⟩, 34), (⟨"SilenceBallModel", "takeWord", "(I)V"⟩, 34), (⟨"SilenceBallModel", "hasWord", "(I)Z"⟩, 34), (⟨"SilenceBallModel", "takeNumber", "(II)I"⟩, 34), (⟨"SilenceBallModel", "readOnce", "()V"⟩, 34), (⟨"SilenceBallModel", "whole", "(I)V"⟩, 34), (⟨"SilenceBallModel", "test", "(I)V"⟩, 34)]
theorem lw_r4 : ∀ q ∈ lw_privs_4, lw_okq q := List.forall_mem_cons.mpr ⟨lw_p48, List.forall_mem_cons.mpr ⟨lw_p49, List.forall_mem_cons.mpr ⟨lw_p50, List.forall_mem_cons.mpr ⟨lw_p51, List.forall_mem_cons.mpr ⟨lw_p52, List.forall_mem_cons.mpr ⟨lw_p53, List.forall_mem_cons.mpr ⟨lw_p54, List.forall_mem_cons.mpr ⟨lw_p55, List.forall_mem_cons.mpr ⟨lw_p56, List.forall_mem_cons.mpr ⟨lw_p57, List.forall_mem_cons.mpr ⟨lw_p58, List.forall_mem_cons.mpr ⟨lw_p59, List.forall_mem_cons.mpr ⟨lw_p60, List.forall_mem_cons.mpr ⟨lw_p61, List.forall_mem_cons.mpr ⟨lw_p62, List.forall_mem_cons.mpr ⟨lw_p63, fun _ h => absurd h List.not_mem_nil⟩⟩⟩⟩⟩⟩⟩⟩⟩⟩⟩⟩⟩⟩⟩⟩
theorem lw_p64 : lw_okq (⟨"SilenceBallModel", "sums", "(I)V"⟩, 34) := ⟨⟨by decide +kernel, by decide +kernel⟩, List.mem_of_getElem? (i := 1336) (by decide +kernel), List.mem_of_getElem? (i := 1582) (by decide +kernel), List.mem_of_getElem? (i := 1583) (by decide +kernel)⟩
theorem lw_p65 : lw_okq (⟨"SilenceBallModel", "products", "(I)V"⟩, 34) := ⟨⟨by decide +kernel, by decide +kernel⟩, List.mem_of_getElem? (i := 1336) (by decide +kernel), List.mem_of_getElem? (i := 1586) (by decide +kernel), List.mem_of_getElem? (i := 1587) (by decide +kernel)⟩
theorem lw_p66 : lw_okq (⟨"SilenceBallModel", "takePart", "(I)V"⟩, 34) := ⟨⟨by decide +kernel, by decide +kernel⟩, List.mem_of_getElem? (i := 1336) (by decide +kernel), List.mem_of_getElem? (i := 1590) (by decide +kernel), List.mem_of_getElem? (i := 1591) (by decide +kernel)⟩
theorem lw_p67 : lw_okq (⟨"SilenceBallModel", "isSign", "(I)Z"⟩, 34) := ⟨⟨by decide +kernel, by decide +kernel⟩, List.mem_of_getElem? (i := 1336) (by decide +kernel), List.mem_of_getElem? (i := 1594) (by decide +kernel), List.mem_of_getElem? (i := 1595) (by decide +kernel)⟩
theorem lw_p68 : lw_okq (⟨"SilenceBallModel", "emit", "(II)V"⟩, 34) := ⟨⟨by decide +kernel, by decide +kernel⟩, List.mem_of_getElem? (i := 1336) (by decide +kernel), List.mem_of_getElem? (i := 1598) (by decide +kernel), List.mem_of_getElem? (i := 1599) (by decide +kernel)⟩
theorem lw_p69 : lw_okq (⟨"SilenceBallModel", "hasSign", "(I)Z"⟩, 34) := ⟨⟨by decide +kernel, by decide +kernel⟩, List.mem_of_getElem? (i := 1336) (by decide +kernel), List.mem_of_getElem? (i := 1602) (by decide +kernel), List.mem_of_getElem? (i := 1603) (by decide +kernel)⟩
theorem lw_p70 : lw_okq (⟨"SilenceBallModel", "takeSign", "(I)V"⟩, 34) := ⟨⟨by decide +kernel, by decide +kernel⟩, List.mem_of_getElem? (i := 1336) (by decide +kernel), List.mem_of_getElem? (i := 1606) (by decide +kernel), List.mem_of_getElem? (i := 1607) (by decide +kernel)⟩
theorem lw_p71 : lw_okq (⟨"SilenceBallModel", "readEvening", "(II)V"⟩, 34) := ⟨⟨by decide +kernel, by decide +kernel⟩, List.mem_of_getElem? (i := 1336) (by decide +kernel), List.mem_of_getElem? (i := 1614) (by decide +kernel), List.mem_of_getElem? (i := 1615) (by decide +kernel)⟩
theorem lw_p72 : lw_okq (⟨"SilenceBallModel", "takeTold", "(I)I"⟩, 34) := ⟨⟨by decide +kernel, by decide +kernel⟩, List.mem_of_getElem? (i := 1336) (by decide +kernel), List.mem_of_getElem? (i := 1618) (by decide +kernel), List.mem_of_getElem? (i := 1619) (by decide +kernel)⟩
theorem lw_p73 : lw_okq (⟨"SilenceBallModel", "isGuest", "(I)Z"⟩, 34) := ⟨⟨by decide +kernel, by decide +kernel⟩, List.mem_of_getElem? (i := 1336) (by decide +kernel), List.mem_of_getElem? (i := 1629) (by decide +kernel), List.mem_of_getElem? (i := 1630) (by decide +kernel)⟩
theorem lw_p74 : lw_okq (⟨"SilenceBallModel", "weightOf", "(I)I"⟩, 34) := ⟨⟨by decide +kernel, by decide +kernel⟩, List.mem_of_getElem? (i := 1336) (by decide +kernel), List.mem_of_getElem? (i := 1633) (by decide +kernel), List.mem_of_getElem? (i := 1634) (by decide +kernel)⟩
theorem lw_p75 : lw_okq (⟨"SilenceBallModel", "isBelt", "(I)Z"⟩, 34) := ⟨⟨by decide +kernel, by decide +kernel⟩, List.mem_of_getElem? (i := 1336) (by decide +kernel), List.mem_of_getElem? (i := 1641) (by decide +kernel), List.mem_of_getElem? (i := 1642) (by decide +kernel)⟩
theorem lw_p76 : lw_okq (⟨"SilenceBallModel", "belts", "()I"⟩, 34) := ⟨⟨by decide +kernel, by decide +kernel⟩, List.mem_of_getElem? (i := 1336) (by decide +kernel), List.mem_of_getElem? (i := 1645) (by decide +kernel), List.mem_of_getElem? (i := 1646) (by decide +kernel)⟩
theorem lw_p77 : lw_okq (⟨"SilenceBallModel", "bearsOf", "(I)I"⟩, 34) := ⟨⟨by decide +kernel, by decide +kernel⟩, List.mem_of_getElem? (i := 1336) (by decide +kernel), List.mem_of_getElem? (i := 1649) (by decide +kernel), List.mem_of_getElem? (i := 1650) (by decide +kernel)⟩
theorem lw_p78 : lw_okq (⟨"SilenceBallModel", "isMan", "(I)Z"⟩, 34) := ⟨⟨by decide +kernel, by decide +kernel⟩, List.mem_of_getElem? (i := 1336) (by decide +kernel), List.mem_of_getElem? (i := 1657) (by decide +kernel), List.mem_of_getElem? (i := 1658) (by decide +kernel)⟩
theorem lw_p79 : lw_okq (⟨"SilenceBallModel", "men", "()I"⟩, 34) := ⟨⟨by decide +kernel, by decide +kernel⟩, List.mem_of_getElem? (i := 1336) (by decide +kernel), List.mem_of_getElem? (i := 1661) (by decide +kernel), List.mem_of_getElem? (i := 1662) (by decide +kernel)⟩
def lw_privs_5 : List (MethodName × Nat) := [(⟨"SilenceBallModel", "sums", "(I)V"⟩, 34), (⟨"SilenceBallModel", "products", "(I)V"⟩, 34), (⟨"SilenceBallModel", "takePart", "(I)V"⟩, 34), (⟨"SilenceBallModel", "isSign", "(I)Z"⟩, 34), (⟨"SilenceBallModel", "emit", "(II)V"⟩, 34), (⟨"SilenceBallModel", "hasSign", "(I)Z"⟩, 34), (⟨"SilenceBallModel", "takeSign", "(I)V"⟩, 34), (⟨"SilenceBallModel", "readEvening", "(II)V"⟩, 34), (⟨"SilenceBallModel", "takeTold", "(I)I"⟩, 34), (⟨"SilenceBallModel", "isGuest", "(I)Z"⟩, 34), (⟨"SilenceBallModel", "weightOf", "(I)I"⟩, 34), (⟨"SilenceBallModel", "isBelt", "(I)Z"⟩, 34), (⟨"SilenceBallModel", "belts", "()I"⟩, 34), (⟨"SilenceBallModel", "bearsOf", "(I)I"⟩, 34), (⟨"SilenceBallModel", "isMan", "(I)Z"⟩, 34), (⟨"SilenceBallModel", "men", "()I"⟩, 34)]
theorem lw_r5 : ∀ q ∈ lw_privs_5, lw_okq q := List.forall_mem_cons.mpr ⟨lw_p64, List.forall_mem_cons.mpr ⟨lw_p65, List.forall_mem_cons.mpr ⟨lw_p66, List.forall_mem_cons.mpr ⟨lw_p67, List.forall_mem_cons.mpr ⟨lw_p68, List.forall_mem_cons.mpr ⟨lw_p69, List.forall_mem_cons.mpr ⟨lw_p70, List.forall_mem_cons.mpr ⟨lw_p71, List.forall_mem_cons.mpr ⟨lw_p72, List.forall_mem_cons.mpr ⟨lw_p73, List.forall_mem_cons.mpr ⟨lw_p74, List.forall_mem_cons.mpr ⟨lw_p75, List.forall_mem_cons.mpr ⟨lw_p76, List.forall_mem_cons.mpr ⟨lw_p77, List.forall_mem_cons.mpr ⟨lw_p78, List.forall_mem_cons.mpr ⟨lw_p79, fun _ h => absurd h List.not_mem_nil⟩⟩⟩⟩⟩⟩⟩⟩⟩⟩⟩⟩⟩⟩⟩⟩
theorem lw_p80 : lw_okq (⟨"SilenceBallModel", "manOf", "(II)I"⟩, 34) := ⟨⟨by decide +kernel, by decide +kernel⟩, List.mem_of_getElem? (i := 1336) (by decide +kernel), List.mem_of_getElem? (i := 1665) (by decide +kernel), List.mem_of_getElem? (i := 1666) (by decide +kernel)⟩
theorem lw_p81 : lw_okq (⟨"SilenceBallModel", "isFree", "(II)Z"⟩, 34) := ⟨⟨by decide +kernel, by decide +kernel⟩, List.mem_of_getElem? (i := 1336) (by decide +kernel), List.mem_of_getElem? (i := 1669) (by decide +kernel), List.mem_of_getElem? (i := 1670) (by decide +kernel)⟩
theorem lw_p82 : lw_okq (⟨"SilenceBallModel", "mayCast", "(IIII)Z"⟩, 34) := ⟨⟨by decide +kernel, by decide +kernel⟩, List.mem_of_getElem? (i := 1336) (by decide +kernel), List.mem_of_getElem? (i := 1677) (by decide +kernel), List.mem_of_getElem? (i := 1678) (by decide +kernel)⟩
theorem lw_p83 : lw_okq (⟨"SilenceBallModel", "couldCast", "(III)Z"⟩, 34) := ⟨⟨by decide +kernel, by decide +kernel⟩, List.mem_of_getElem? (i := 1336) (by decide +kernel), List.mem_of_getElem? (i := 1681) (by decide +kernel), List.mem_of_getElem? (i := 1682) (by decide +kernel)⟩
theorem lw_p84 : lw_okq (⟨"SilenceBallModel", "isIn", "(II)Z"⟩, 34) := ⟨⟨by decide +kernel, by decide +kernel⟩, List.mem_of_getElem? (i := 1336) (by decide +kernel), List.mem_of_getElem? (i := 1685) (by decide +kernel), List.mem_of_getElem? (i := 1686) (by decide +kernel)⟩
theorem lw_p85 : lw_okq (⟨"SilenceBallModel", "gapTo", "(III)I"⟩, 34) := ⟨⟨by decide +kernel, by decide +kernel⟩, List.mem_of_getElem? (i := 1336) (by decide +kernel), List.mem_of_getElem? (i := 1689) (by decide +kernel), List.mem_of_getElem? (i := 1690) (by decide +kernel)⟩
theorem lw_p86 : lw_okq (⟨"SilenceBallModel", "wall", "(I)I"⟩, 34) := ⟨⟨by decide +kernel, by decide +kernel⟩, List.mem_of_getElem? (i := 1336) (by decide +kernel), List.mem_of_getElem? (i := 1693) (by decide +kernel), List.mem_of_getElem? (i := 1694) (by decide +kernel)⟩
theorem lw_p87 : lw_okq (⟨"SilenceBallModel", "keeps", "()V"⟩, 34) := ⟨⟨by decide +kernel, by decide +kernel⟩, List.mem_of_getElem? (i := 1336) (by decide +kernel), List.mem_of_getElem? (i := 1697) (by decide +kernel), List.mem_of_getElem? (i := 1698) (by decide +kernel)⟩
theorem lw_p88 : lw_okq (⟨"SilenceBallModel", "copies", "(III)V"⟩, 34) := ⟨⟨by decide +kernel, by decide +kernel⟩, List.mem_of_getElem? (i := 1336) (by decide +kernel), List.mem_of_getElem? (i := 1701) (by decide +kernel), List.mem_of_getElem? (i := 1702) (by decide +kernel)⟩
theorem lw_p89 : lw_okq (⟨"SilenceBallModel", "casts", "(IIII)V"⟩, 34) := ⟨⟨by decide +kernel, by decide +kernel⟩, List.mem_of_getElem? (i := 1336) (by decide +kernel), List.mem_of_getElem? (i := 1705) (by decide +kernel), List.mem_of_getElem? (i := 1706) (by decide +kernel)⟩
theorem lw_p90 : lw_okq (⟨"SilenceBallModel", "mayStop", "(II)Z"⟩, 34) := ⟨⟨by decide +kernel, by decide +kernel⟩, List.mem_of_getElem? (i := 1336) (by decide +kernel), List.mem_of_getElem? (i := 1717) (by decide +kernel), List.mem_of_getElem? (i := 1718) (by decide +kernel)⟩
theorem lw_p91 : lw_okq (⟨"SilenceBallModel", "stops", "(II)V"⟩, 34) := ⟨⟨by decide +kernel, by decide +kernel⟩, List.mem_of_getElem? (i := 1336) (by decide +kernel), List.mem_of_getElem? (i := 1721) (by decide +kernel), List.mem_of_getElem? (i := 1722) (by decide +kernel)⟩
theorem lw_p92 : lw_okq (⟨"SilenceBallModel", "passes", "(I)I"⟩, 34) := ⟨⟨by decide +kernel, by decide +kernel⟩, List.mem_of_getElem? (i := 1336) (by decide +kernel), List.mem_of_getElem? (i := 1729) (by decide +kernel), List.mem_of_getElem? (i := 1730) (by decide +kernel)⟩
theorem lw_p93 : lw_okq (⟨"SilenceBallModel", "who", "(II)I"⟩, 34) := ⟨⟨by decide +kernel, by decide +kernel⟩, List.mem_of_getElem? (i := 1336) (by decide +kernel), List.mem_of_getElem? (i := 1733) (by decide +kernel), List.mem_of_getElem? (i := 1734) (by decide +kernel)⟩
theorem lw_p94 : lw_okq (⟨"SilenceBallModel", "breathes", "(II)V"⟩, 34) := ⟨⟨by decide +kernel, by decide +kernel⟩, List.mem_of_getElem? (i := 1336) (by decide +kernel), List.mem_of_getElem? (i := 1737) (by decide +kernel), List.mem_of_getElem? (i := 1738) (by decide +kernel)⟩
theorem lw_p95 : lw_okq (⟨"SilenceBallModel", "isUnder", "(II)Z"⟩, 34) := ⟨⟨by decide +kernel, by decide +kernel⟩, List.mem_of_getElem? (i := 1336) (by decide +kernel), List.mem_of_getElem? (i := 1741) (by decide +kernel), List.mem_of_getElem? (i := 1742) (by decide +kernel)⟩
def lw_privs_6 : List (MethodName × Nat) := [(⟨"SilenceBallModel", "manOf", "(II)I"⟩, 34), (⟨"SilenceBallModel", "isFree", "(II)Z"⟩, 34), (⟨"SilenceBallModel", "mayCast", "(IIII)Z"⟩, 34), (⟨"SilenceBallModel", "couldCast", "(III)Z"⟩, 34), (⟨"SilenceBallModel", "isIn", "(II)Z"⟩, 34), (⟨"SilenceBallModel", "gapTo", "(III)I"⟩, 34), (⟨"SilenceBallModel", "wall", "(I)I"⟩, 34), (⟨"SilenceBallModel", "keeps", "()V"⟩, 34), (⟨"SilenceBallModel", "copies", "(III)V"⟩, 34), (⟨"SilenceBallModel", "casts", "(IIII)V"⟩, 34), (⟨"SilenceBallModel", "mayStop", "(II)Z"⟩, 34), (⟨"SilenceBallModel", "stops", "(II)V"⟩, 34), (⟨"SilenceBallModel", "passes", "(I)I"⟩, 34), (⟨"SilenceBallModel", "who", "(II)I"⟩, 34), (⟨"SilenceBallModel", "breathes", "(II)V"⟩, 34), (⟨"SilenceBallModel", "isUnder", "(II)Z"⟩, 34)]
theorem lw_r6 : ∀ q ∈ lw_privs_6, lw_okq q := List.forall_mem_cons.mpr ⟨lw_p80, List.forall_mem_cons.mpr ⟨lw_p81, List.forall_mem_cons.mpr ⟨lw_p82, List.forall_mem_cons.mpr ⟨lw_p83, List.forall_mem_cons.mpr ⟨lw_p84, List.forall_mem_cons.mpr ⟨lw_p85, List.forall_mem_cons.mpr ⟨lw_p86, List.forall_mem_cons.mpr ⟨lw_p87, List.forall_mem_cons.mpr ⟨lw_p88, List.forall_mem_cons.mpr ⟨lw_p89, List.forall_mem_cons.mpr ⟨lw_p90, List.forall_mem_cons.mpr ⟨lw_p91, List.forall_mem_cons.mpr ⟨lw_p92, List.forall_mem_cons.mpr ⟨lw_p93, List.forall_mem_cons.mpr ⟨lw_p94, List.forall_mem_cons.mpr ⟨lw_p95, fun _ h => absurd h List.not_mem_nil⟩⟩⟩⟩⟩⟩⟩⟩⟩⟩⟩⟩⟩⟩⟩⟩
theorem lw_p96 : lw_okq (⟨"SilenceBallModel", "doesBear", "(II)Z"⟩, 34) := ⟨⟨by decide +kernel, by decide +kernel⟩, List.mem_of_getElem? (i := 1336) (by decide +kernel), List.mem_of_getElem? (i := 1745) (by decide +kernel), List.mem_of_getElem? (i := 1746) (by decide +kernel)⟩
theorem lw_p97 : lw_okq (⟨"SilenceBallModel", "drawsIn", "(II)V"⟩, 34) := ⟨⟨by decide +kernel, by decide +kernel⟩, List.mem_of_getElem? (i := 1336) (by decide +kernel), List.mem_of_getElem? (i := 1749) (by decide +kernel), List.mem_of_getElem? (i := 1750) (by decide +kernel)⟩
theorem lw_p98 : lw_okq (⟨"SilenceBallModel", "worthAt", "(I)I"⟩, 34) := ⟨⟨by decide +kernel, by decide +kernel⟩, List.mem_of_getElem? (i := 1336) (by decide +kernel), List.mem_of_getElem? (i := 1756) (by decide +kernel), List.mem_of_getElem? (i := 1757) (by decide +kernel)⟩
theorem lw_p99 : lw_okq (⟨"SilenceBallModel", "underNow", "()I"⟩, 34) := ⟨⟨by decide +kernel, by decide +kernel⟩, List.mem_of_getElem? (i := 1336) (by decide +kernel), List.mem_of_getElem? (i := 1775) (by decide +kernel), List.mem_of_getElem? (i := 1776) (by decide +kernel)⟩
theorem lw_p100 : lw_okq (⟨"SilenceBallModel", "criers", "(I)I"⟩, 34) := ⟨⟨by decide +kernel, by decide +kernel⟩, List.mem_of_getElem? (i := 1336) (by decide +kernel), List.mem_of_getElem? (i := 1783) (by decide +kernel), List.mem_of_getElem? (i := 1784) (by decide +kernel)⟩
theorem lw_p101 : lw_okq (⟨"SilenceBallModel", "doesCry", "(II)Z"⟩, 34) := ⟨⟨by decide +kernel, by decide +kernel⟩, List.mem_of_getElem? (i := 1336) (by decide +kernel), List.mem_of_getElem? (i := 1787) (by decide +kernel), List.mem_of_getElem? (i := 1788) (by decide +kernel)⟩
theorem lw_p102 : lw_okq (⟨"SilenceBallModel", "triesNow", "()V"⟩, 34) := ⟨⟨by decide +kernel, by decide +kernel⟩, List.mem_of_getElem? (i := 1336) (by decide +kernel), List.mem_of_getElem? (i := 1795) (by decide +kernel), List.mem_of_getElem? (i := 1796) (by decide +kernel)⟩
theorem lw_p103 : lw_okq (⟨"SilenceBallModel", "sinksIn", "(I)I"⟩, 34) := ⟨⟨by decide +kernel, by decide +kernel⟩, List.mem_of_getElem? (i := 1336) (by decide +kernel), List.mem_of_getElem? (i := 1807) (by decide +kernel), List.mem_of_getElem? (i := 1808) (by decide +kernel)⟩
theorem lw_p104 : lw_okq (⟨"SilenceBallModel", "becomes", "(II)I"⟩, 34) := ⟨⟨by decide +kernel, by decide +kernel⟩, List.mem_of_getElem? (i := 1336) (by decide +kernel), List.mem_of_getElem? (i := 1811) (by decide +kernel), List.mem_of_getElem? (i := 1812) (by decide +kernel)⟩
theorem lw_p105 : lw_okq (⟨"SilenceBallModel", "fitsOf", "(I)I"⟩, 34) := ⟨⟨by decide +kernel, by decide +kernel⟩, List.mem_of_getElem? (i := 1336) (by decide +kernel), List.mem_of_getElem? (i := 1839) (by decide +kernel), List.mem_of_getElem? (i := 1840) (by decide +kernel)⟩
theorem lw_p106 : lw_okq (⟨"SilenceBallModel", "castsFrom", "(II)V"⟩, 34) := ⟨⟨by decide +kernel, by decide +kernel⟩, List.mem_of_getElem? (i := 1336) (by decide +kernel), List.mem_of_getElem? (i := 1851) (by decide +kernel), List.mem_of_getElem? (i := 1852) (by decide +kernel)⟩
theorem lw_p107 : lw_okq (⟨"SilenceBallModel", "beltsFrom", "(II)Z"⟩, 34) := ⟨⟨by decide +kernel, by decide +kernel⟩, List.mem_of_getElem? (i := 1336) (by decide +kernel), List.mem_of_getElem? (i := 1855) (by decide +kernel), List.mem_of_getElem? (i := 1856) (by decide +kernel)⟩
theorem lw_p108 : lw_okq (⟨"SilenceBallModel", "doesHold", "(II)Z"⟩, 34) := ⟨⟨by decide +kernel, by decide +kernel⟩, List.mem_of_getElem? (i := 1336) (by decide +kernel), List.mem_of_getElem? (i := 1867) (by decide +kernel), List.mem_of_getElem? (i := 1868) (by decide +kernel)⟩
theorem lw_p109 : lw_okq (⟨"SilenceBallModel", "bearOf", "(I)I"⟩, 34) := ⟨⟨by decide +kernel, by decide +kernel⟩, List.mem_of_getElem? (i := 1336) (by decide +kernel), List.mem_of_getElem? (i := 1871) (by decide +kernel), List.mem_of_getElem? (i := 1872) (by decide +kernel)⟩
theorem lw_p110 : lw_okq (⟨"SilenceBallModel", "enoughFor", "(I)I"⟩, 34) := ⟨⟨by decide +kernel, by decide +kernel⟩, List.mem_of_getElem? (i := 1336) (by decide +kernel), List.mem_of_getElem? (i := 1879) (by decide +kernel), List.mem_of_getElem? (i := 1880) (by decide +kernel)⟩
theorem lw_p111 : lw_okq (⟨"SilenceBallModel", "doesSave", "(III)Z"⟩, 34) := ⟨⟨by decide +kernel, by decide +kernel⟩, List.mem_of_getElem? (i := 1336) (by decide +kernel), List.mem_of_getElem? (i := 1895) (by decide +kernel), List.mem_of_getElem? (i := 1896) (by decide +kernel)⟩
def lw_privs_7 : List (MethodName × Nat) := [(⟨"SilenceBallModel", "doesBear", "(II)Z"⟩, 34), (⟨"SilenceBallModel", "drawsIn", "(II)V"⟩, 34), (⟨"SilenceBallModel", "worthAt", "(I)I"⟩, 34), (⟨"SilenceBallModel", "underNow", "()I"⟩, 34), (⟨"SilenceBallModel", "criers", "(I)I"⟩, 34), (⟨"SilenceBallModel", "doesCry", "(II)Z"⟩, 34), (⟨"SilenceBallModel", "triesNow", "()V"⟩, 34), (⟨"SilenceBallModel", "sinksIn", "(I)I"⟩, 34), (⟨"SilenceBallModel", "becomes", "(II)I"⟩, 34), (⟨"SilenceBallModel", "fitsOf", "(I)I"⟩, 34), (⟨"SilenceBallModel", "castsFrom", "(II)V"⟩, 34), (⟨"SilenceBallModel", "beltsFrom", "(II)Z"⟩, 34), (⟨"SilenceBallModel", "doesHold", "(II)Z"⟩, 34), (⟨"SilenceBallModel", "bearOf", "(I)I"⟩, 34), (⟨"SilenceBallModel", "enoughFor", "(I)I"⟩, 34), (⟨"SilenceBallModel", "doesSave", "(III)Z"⟩, 34)]
theorem lw_r7 : ∀ q ∈ lw_privs_7, lw_okq q := List.forall_mem_cons.mpr ⟨lw_p96, List.forall_mem_cons.mpr ⟨lw_p97, List.forall_mem_cons.mpr ⟨lw_p98, List.forall_mem_cons.mpr ⟨lw_p99, List.forall_mem_cons.mpr ⟨lw_p100, List.forall_mem_cons.mpr ⟨lw_p101, List.forall_mem_cons.mpr ⟨lw_p102, List.forall_mem_cons.mpr ⟨lw_p103, List.forall_mem_cons.mpr ⟨lw_p104, List.forall_mem_cons.mpr ⟨lw_p105, List.forall_mem_cons.mpr ⟨lw_p106, List.forall_mem_cons.mpr ⟨lw_p107, List.forall_mem_cons.mpr ⟨lw_p108, List.forall_mem_cons.mpr ⟨lw_p109, List.forall_mem_cons.mpr ⟨lw_p110, List.forall_mem_cons.mpr ⟨lw_p111, fun _ h => absurd h List.not_mem_nil⟩⟩⟩⟩⟩⟩⟩⟩⟩⟩⟩⟩⟩⟩⟩⟩
theorem lw_p112 : lw_okq (⟨"SilenceBallModel", "denseNow", "()I"⟩, 34) := ⟨⟨by decide +kernel, by decide +kernel⟩, List.mem_of_getElem? (i := 1336) (by decide +kernel), List.mem_of_getElem? (i := 1915) (by decide +kernel), List.mem_of_getElem? (i := 1916) (by decide +kernel)⟩
theorem lw_p113 : lw_okq (⟨"SilenceBallModel", "manyAt", "(I)I"⟩, 34) := ⟨⟨by decide +kernel, by decide +kernel⟩, List.mem_of_getElem? (i := 1336) (by decide +kernel), List.mem_of_getElem? (i := 1919) (by decide +kernel), List.mem_of_getElem? (i := 1920) (by decide +kernel)⟩
theorem lw_p114 : lw_okq (⟨"SilenceBallModel", "holesNow", "()I"⟩, 34) := ⟨⟨by decide +kernel, by decide +kernel⟩, List.mem_of_getElem? (i := 1336) (by decide +kernel), List.mem_of_getElem? (i := 1939) (by decide +kernel), List.mem_of_getElem? (i := 1940) (by decide +kernel)⟩
theorem lw_p115 : lw_okq (⟨"SilenceBallModel", "depthsNow", "()V"⟩, 34) := ⟨⟨by decide +kernel, by decide +kernel⟩, List.mem_of_getElem? (i := 1336) (by decide +kernel), List.mem_of_getElem? (i := 1943) (by decide +kernel), List.mem_of_getElem? (i := 1944) (by decide +kernel)⟩
theorem lw_p116 : lw_okq (⟨"SilenceBallModel", "drawsDeed", "()Z"⟩, 34) := ⟨⟨by decide +kernel, by decide +kernel⟩, List.mem_of_getElem? (i := 1336) (by decide +kernel), List.mem_of_getElem? (i := 1967) (by decide +kernel), List.mem_of_getElem? (i := 1968) (by decide +kernel)⟩
theorem lw_p117 : lw_okq (⟨"SilenceBallModel", "draw", "(I)I"⟩, 34) := ⟨⟨by decide +kernel, by decide +kernel⟩, List.mem_of_getElem? (i := 1336) (by decide +kernel), List.mem_of_getElem? (i := 1971) (by decide +kernel), List.mem_of_getElem? (i := 1972) (by decide +kernel)⟩
def lw_privs_8 : List (MethodName × Nat) := [(⟨"SilenceBallModel", "denseNow", "()I"⟩, 34), (⟨"SilenceBallModel", "manyAt", "(I)I"⟩, 34), (⟨"SilenceBallModel", "holesNow", "()I"⟩, 34), (⟨"SilenceBallModel", "depthsNow", "()V"⟩, 34), (⟨"SilenceBallModel", "drawsDeed", "()Z"⟩, 34), (⟨"SilenceBallModel", "draw", "(I)I"⟩, 34)]
theorem lw_r8 : ∀ q ∈ lw_privs_8, lw_okq q := List.forall_mem_cons.mpr ⟨lw_p112, List.forall_mem_cons.mpr ⟨lw_p113, List.forall_mem_cons.mpr ⟨lw_p114, List.forall_mem_cons.mpr ⟨lw_p115, List.forall_mem_cons.mpr ⟨lw_p116, List.forall_mem_cons.mpr ⟨lw_p117, fun _ h => absurd h List.not_mem_nil⟩⟩⟩⟩⟩⟩
def lw_privs : List (MethodName × Nat) := lw_privs_1 ++ (lw_privs_2 ++ (lw_privs_3 ++ (lw_privs_4 ++ (lw_privs_5 ++ (lw_privs_6 ++ (lw_privs_7 ++ (lw_privs_8)))))))
def lw_tbl : List Cond := k2_sels lw_privs ++ tables_1
theorem lw_privs_ok : ∀ q ∈ lw_privs, lw_okq q := by
  show ∀ q ∈ lw_privs_1 ++ (lw_privs_2 ++ (lw_privs_3 ++ (lw_privs_4 ++ (lw_privs_5 ++ (lw_privs_6 ++ (lw_privs_7 ++ (lw_privs_8))))))), lw_okq q
  exact List.forall_mem_append.mpr ⟨lw_r1, List.forall_mem_append.mpr ⟨lw_r2, List.forall_mem_append.mpr ⟨lw_r3, List.forall_mem_append.mpr ⟨lw_r4, List.forall_mem_append.mpr ⟨lw_r5, List.forall_mem_append.mpr ⟨lw_r6, List.forall_mem_append.mpr ⟨lw_r7, lw_r8⟩⟩⟩⟩⟩⟩⟩
/-- the good words of the tables: every method's list is its own code and these -/
def xG : List Cond := lw_tbl.filter goodWord
theorem xG_in {w : Cond} (i : Nat) (h : lw_tbl[i]? = some w) (hg : goodWord w = true) : w ∈ xG := List.mem_filter.mpr ⟨List.mem_of_getElem? h, hg⟩
theorem xG_good : ∀ w ∈ xG, goodWord w = true := fun _ h => (List.mem_filter.mp h).2
theorem xG_tbl : ∀ w ∈ xG, w ∈ lw_tbl := fun _ h => (List.mem_filter.mp h).1
end
section
def xR0 : String := "SilenceBall$Acts"
def xT0 : u_T := fun k => match k with
  | 0 => ("SilenceBall$Acts", "ring", "[LSilenceBall$Scene;", true)
  | 1 => ("SilenceBall$Acts", "next", "I", false)
  | _ => ("SilenceBall$Acts", "kept", "I", false)
def xY0 : Nat → FieldType := fun k => match k with
  | 0 => .array (.object "SilenceBall$Scene")
  | 1 => .int
  | _ => .int
theorem xN0 : ∀ a, a < 3 → ∀ b, b < 3 → a ≠ b → (xT0 a).2.1 ≠ (xT0 b).2.1 := by decide +kernel
theorem xP0 : ∀ k, k < 3 → parseFieldDescriptor (xT0 k).2.2.1 = some (xY0 k) := by decide +kernel
theorem xI0 : ∀ w ∈ u_ws xR0 xT0 3, w ∈ xG := by
  show ∀ w ∈ [u_lay xR0 xT0 0, u_lay xR0 xT0 1, u_lay xR0 xT0 2], w ∈ xG
  exact List.forall_mem_cons.mpr ⟨xG_in 420 (by decide +kernel) (by decide +kernel), List.forall_mem_cons.mpr ⟨xG_in 422 (by decide +kernel) (by decide +kernel), List.forall_mem_cons.mpr ⟨xG_in 424 (by decide +kernel) (by decide +kernel), fun _ h => absurd h List.not_mem_nil⟩⟩⟩
def xR1 : String := "SilenceBall$Evening"
def xT1 : u_T := fun k => match k with
  | 0 => ("SilenceBall$Evening", "lines", "I", false)
  | 1 => ("SilenceBall$Evening", "act", "[I", true)
  | 2 => ("SilenceBall$Evening", "man", "[I", true)
  | 3 => ("SilenceBall$Evening", "belt", "[I", true)
  | _ => ("SilenceBall$Evening", "guest", "[I", true)
def xY1 : Nat → FieldType := fun k => match k with
  | 0 => .int
  | 1 => .array .int
  | 2 => .array .int
  | 3 => .array .int
  | _ => .array .int
theorem xN1 : ∀ a, a < 5 → ∀ b, b < 5 → a ≠ b → (xT1 a).2.1 ≠ (xT1 b).2.1 := by decide +kernel
theorem xP1 : ∀ k, k < 5 → parseFieldDescriptor (xT1 k).2.2.1 = some (xY1 k) := by decide +kernel
theorem xI1 : ∀ w ∈ u_ws xR1 xT1 5, w ∈ xG := by
  show ∀ w ∈ [u_lay xR1 xT1 0, u_lay xR1 xT1 1, u_lay xR1 xT1 2, u_lay xR1 xT1 3, u_lay xR1 xT1 4], w ∈ xG
  exact List.forall_mem_cons.mpr ⟨xG_in 353 (by decide +kernel) (by decide +kernel), List.forall_mem_cons.mpr ⟨xG_in 355 (by decide +kernel) (by decide +kernel), List.forall_mem_cons.mpr ⟨xG_in 357 (by decide +kernel) (by decide +kernel), List.forall_mem_cons.mpr ⟨xG_in 359 (by decide +kernel) (by decide +kernel), List.forall_mem_cons.mpr ⟨xG_in 361 (by decide +kernel) (by decide +kernel), fun _ h => absurd h List.not_mem_nil⟩⟩⟩⟩⟩
def xR2 : String := "SilenceBall$House"
def xT2 : u_T := fun k => match k with
  | 0 => ("SilenceBall$House", "guests", "I", false)
  | 1 => ("SilenceBall$House", "belts", "I", false)
  | 2 => ("SilenceBall$House", "men", "I", false)
  | 3 => ("SilenceBall$House", "gaps", "I", false)
  | 4 => ("SilenceBall$House", "water", "I", false)
  | 5 => ("SilenceBall$House", "guestNames", "[J", true)
  | 6 => ("SilenceBall$House", "kind", "[I", true)
  | 7 => ("SilenceBall$House", "place", "[I", true)
  | 8 => ("SilenceBall$House", "chin", "[I", true)
  | 9 => ("SilenceBall$House", "breath", "[I", true)
  | 10 => ("SilenceBall$House", "weight", "[I", true)
  | 11 => ("SilenceBall$House", "beltNames", "[J", true)
  | 12 => ("SilenceBall$House", "bears", "[I", true)
  | 13 => ("SilenceBall$House", "manNames", "[J", true)
  | 14 => ("SilenceBall$House", "post", "[I", true)
  | 15 => ("SilenceBall$House", "reach", "[I", true)
  | _ => ("SilenceBall$House", "law", "LSilenceBall$Law;", true)
def xY2 : Nat → FieldType := fun k => match k with
  | 0 => .int
  | 1 => .int
  | 2 => .int
  | 3 => .int
  | 4 => .int
  | 5 => .array .long
  | 6 => .array .int
  | 7 => .array .int
  | 8 => .array .int
  | 9 => .array .int
  | 10 => .array .int
  | 11 => .array .long
  | 12 => .array .int
  | 13 => .array .long
  | 14 => .array .int
  | 15 => .array .int
  | _ => .object "SilenceBall$Law"
theorem xN2 : ∀ a, a < 17 → ∀ b, b < 17 → a ≠ b → (xT2 a).2.1 ≠ (xT2 b).2.1 := by decide +kernel
theorem xP2 : ∀ k, k < 17 → parseFieldDescriptor (xT2 k).2.2.1 = some (xY2 k) := by decide +kernel
theorem xI2 : ∀ w ∈ u_ws xR2 xT2 17, w ∈ xG := by
  show ∀ w ∈ [u_lay xR2 xT2 0, u_lay xR2 xT2 1, u_lay xR2 xT2 2, u_lay xR2 xT2 3, u_lay xR2 xT2 4, u_lay xR2 xT2 5, u_lay xR2 xT2 6, u_lay xR2 xT2 7, u_lay xR2 xT2 8, u_lay xR2 xT2 9, u_lay xR2 xT2 10, u_lay xR2 xT2 11, u_lay xR2 xT2 12, u_lay xR2 xT2 13, u_lay xR2 xT2 14, u_lay xR2 xT2 15, u_lay xR2 xT2 16], w ∈ xG
  exact List.forall_mem_cons.mpr ⟨xG_in 281 (by decide +kernel) (by decide +kernel), List.forall_mem_cons.mpr ⟨xG_in 283 (by decide +kernel) (by decide +kernel), List.forall_mem_cons.mpr ⟨xG_in 285 (by decide +kernel) (by decide +kernel), List.forall_mem_cons.mpr ⟨xG_in 287 (by decide +kernel) (by decide +kernel), List.forall_mem_cons.mpr ⟨xG_in 289 (by decide +kernel) (by decide +kernel), List.forall_mem_cons.mpr ⟨xG_in 291 (by decide +kernel) (by decide +kernel), List.forall_mem_cons.mpr ⟨xG_in 293 (by decide +kernel) (by decide +kernel), List.forall_mem_cons.mpr ⟨xG_in 295 (by decide +kernel) (by decide +kernel), List.forall_mem_cons.mpr ⟨xG_in 297 (by decide +kernel) (by decide +kernel), List.forall_mem_cons.mpr ⟨xG_in 299 (by decide +kernel) (by decide +kernel), List.forall_mem_cons.mpr ⟨xG_in 301 (by decide +kernel) (by decide +kernel), List.forall_mem_cons.mpr ⟨xG_in 303 (by decide +kernel) (by decide +kernel), List.forall_mem_cons.mpr ⟨xG_in 305 (by decide +kernel) (by decide +kernel), List.forall_mem_cons.mpr ⟨xG_in 307 (by decide +kernel) (by decide +kernel), List.forall_mem_cons.mpr ⟨xG_in 309 (by decide +kernel) (by decide +kernel), List.forall_mem_cons.mpr ⟨xG_in 311 (by decide +kernel) (by decide +kernel), List.forall_mem_cons.mpr ⟨xG_in 313 (by decide +kernel) (by decide +kernel), fun _ h => absurd h List.not_mem_nil⟩⟩⟩⟩⟩⟩⟩⟩⟩⟩⟩⟩⟩⟩⟩⟩⟩
def xR3 : String := "SilenceBall$Inquest"
def xT3 : u_T := fun k => match k with
  | _ => ("SilenceBall$Inquest", "course", "[I", true)
def xY3 : Nat → FieldType := fun k => match k with
  | _ => .array .int
theorem xN3 : ∀ a, a < 1 → ∀ b, b < 1 → a ≠ b → (xT3 a).2.1 ≠ (xT3 b).2.1 := by decide +kernel
theorem xP3 : ∀ k, k < 1 → parseFieldDescriptor (xT3 k).2.2.1 = some (xY3 k) := by decide +kernel
theorem xI3 : ∀ w ∈ u_ws xR3 xT3 1, w ∈ xG := by
  show ∀ w ∈ [u_lay xR3 xT3 0], w ∈ xG
  exact List.forall_mem_cons.mpr ⟨xG_in 472 (by decide +kernel) (by decide +kernel), fun _ h => absurd h List.not_mem_nil⟩
def xR4 : String := "SilenceBall$Law"
def xT4 : u_T := fun k => match k with
  | 0 => ("SilenceBall$Law", "codes", "[I", true)
  | 1 => ("SilenceBall$Law", "length", "I", false)
  | 2 => ("SilenceBall$Law", "pending", "[I", true)
  | _ => ("SilenceBall$Law", "height", "I", false)
def xY4 : Nat → FieldType := fun k => match k with
  | 0 => .array .int
  | 1 => .int
  | 2 => .array .int
  | _ => .int
theorem xN4 : ∀ a, a < 4 → ∀ b, b < 4 → a ≠ b → (xT4 a).2.1 ≠ (xT4 b).2.1 := by decide +kernel
theorem xP4 : ∀ k, k < 4 → parseFieldDescriptor (xT4 k).2.2.1 = some (xY4 k) := by decide +kernel
theorem xI4 : ∀ w ∈ u_ws xR4 xT4 4, w ∈ xG := by
  show ∀ w ∈ [u_lay xR4 xT4 0, u_lay xR4 xT4 1, u_lay xR4 xT4 2, u_lay xR4 xT4 3], w ∈ xG
  exact List.forall_mem_cons.mpr ⟨xG_in 208 (by decide +kernel) (by decide +kernel), List.forall_mem_cons.mpr ⟨xG_in 210 (by decide +kernel) (by decide +kernel), List.forall_mem_cons.mpr ⟨xG_in 212 (by decide +kernel) (by decide +kernel), List.forall_mem_cons.mpr ⟨xG_in 214 (by decide +kernel) (by decide +kernel), fun _ h => absurd h List.not_mem_nil⟩⟩⟩⟩
def xR5 : String := "SilenceBall$Mark"
def xT5 : u_T := fun k => match k with
  | 0 => ("SilenceBall$Mark", "laid", "Z", false)
  | 1 => ("SilenceBall$Mark", "scene", "LSilenceBall$Scene;", true)
  | _ => ("SilenceBall$Mark", "seen", "LSilenceBall$Seen;", true)
def xY5 : Nat → FieldType := fun k => match k with
  | 0 => .boolean
  | 1 => .object "SilenceBall$Scene"
  | _ => .object "SilenceBall$Seen"
theorem xN5 : ∀ a, a < 3 → ∀ b, b < 3 → a ≠ b → (xT5 a).2.1 ≠ (xT5 b).2.1 := by decide +kernel
theorem xP5 : ∀ k, k < 3 → parseFieldDescriptor (xT5 k).2.2.1 = some (xY5 k) := by decide +kernel
theorem xI5 : ∀ w ∈ u_ws xR5 xT5 3, w ∈ xG := by
  show ∀ w ∈ [u_lay xR5 xT5 0, u_lay xR5 xT5 1, u_lay xR5 xT5 2], w ∈ xG
  exact List.forall_mem_cons.mpr ⟨xG_in 456 (by decide +kernel) (by decide +kernel), List.forall_mem_cons.mpr ⟨xG_in 458 (by decide +kernel) (by decide +kernel), List.forall_mem_cons.mpr ⟨xG_in 460 (by decide +kernel) (by decide +kernel), fun _ h => absurd h List.not_mem_nil⟩⟩⟩
def xR6 : String := "SilenceBall$Rescue"
def xT6 : u_T := fun k => match k with
  | 0 => ("SilenceBall$Rescue", "house", "LSilenceBall$House;", true)
  | 1 => ("SilenceBall$Rescue", "scene", "LSilenceBall$Scene;", true)
  | 2 => ("SilenceBall$Rescue", "most", "I", false)
  | 3 => ("SilenceBall$Rescue", "guestOf", "[I", true)
  | 4 => ("SilenceBall$Rescue", "beltOf", "[I", true)
  | 5 => ("SilenceBall$Rescue", "triedGuest", "[I", true)
  | _ => ("SilenceBall$Rescue", "triedBelt", "[I", true)
def xY6 : Nat → FieldType := fun k => match k with
  | 0 => .object "SilenceBall$House"
  | 1 => .object "SilenceBall$Scene"
  | 2 => .int
  | 3 => .array .int
  | 4 => .array .int
  | 5 => .array .int
  | _ => .array .int
theorem xN6 : ∀ a, a < 7 → ∀ b, b < 7 → a ≠ b → (xT6 a).2.1 ≠ (xT6 b).2.1 := by decide +kernel
theorem xP6 : ∀ k, k < 7 → parseFieldDescriptor (xT6 k).2.2.1 = some (xY6 k) := by decide +kernel
theorem xI6 : ∀ w ∈ u_ws xR6 xT6 7, w ∈ xG := by
  show ∀ w ∈ [u_lay xR6 xT6 0, u_lay xR6 xT6 1, u_lay xR6 xT6 2, u_lay xR6 xT6 3, u_lay xR6 xT6 4, u_lay xR6 xT6 5, u_lay xR6 xT6 6], w ∈ xG
  exact List.forall_mem_cons.mpr ⟨xG_in 491 (by decide +kernel) (by decide +kernel), List.forall_mem_cons.mpr ⟨xG_in 493 (by decide +kernel) (by decide +kernel), List.forall_mem_cons.mpr ⟨xG_in 495 (by decide +kernel) (by decide +kernel), List.forall_mem_cons.mpr ⟨xG_in 497 (by decide +kernel) (by decide +kernel), List.forall_mem_cons.mpr ⟨xG_in 499 (by decide +kernel) (by decide +kernel), List.forall_mem_cons.mpr ⟨xG_in 501 (by decide +kernel) (by decide +kernel), List.forall_mem_cons.mpr ⟨xG_in 503 (by decide +kernel) (by decide +kernel), fun _ h => absurd h List.not_mem_nil⟩⟩⟩⟩⟩⟩⟩
def xR7 : String := "SilenceBall$RoomReader"
def xT7 : u_T := fun k => match k with
  | 0 => ("SilenceBall$RoomReader", "draft", "LSilenceBall$House;", true)
  | 1 => ("SilenceBall$RoomReader", "tape", "LSilenceBall$Tape;", true)
  | 2 => ("SilenceBall$RoomReader", "gapsTold", "Z", false)
  | 3 => ("SilenceBall$RoomReader", "waterTold", "Z", false)
  | _ => ("SilenceBall$RoomReader", "lawTold", "Z", false)
def xY7 : Nat → FieldType := fun k => match k with
  | 0 => .object "SilenceBall$House"
  | 1 => .object "SilenceBall$Tape"
  | 2 => .boolean
  | 3 => .boolean
  | _ => .boolean
theorem xN7 : ∀ a, a < 5 → ∀ b, b < 5 → a ≠ b → (xT7 a).2.1 ≠ (xT7 b).2.1 := by decide +kernel
theorem xP7 : ∀ k, k < 5 → parseFieldDescriptor (xT7 k).2.2.1 = some (xY7 k) := by decide +kernel
theorem xI7 : ∀ w ∈ u_ws xR7 xT7 5, w ∈ xG := by
  show ∀ w ∈ [u_lay xR7 xT7 0, u_lay xR7 xT7 1, u_lay xR7 xT7 2, u_lay xR7 xT7 3, u_lay xR7 xT7 4], w ∈ xG
  exact List.forall_mem_cons.mpr ⟨xG_in 330 (by decide +kernel) (by decide +kernel), List.forall_mem_cons.mpr ⟨xG_in 332 (by decide +kernel) (by decide +kernel), List.forall_mem_cons.mpr ⟨xG_in 334 (by decide +kernel) (by decide +kernel), List.forall_mem_cons.mpr ⟨xG_in 336 (by decide +kernel) (by decide +kernel), List.forall_mem_cons.mpr ⟨xG_in 338 (by decide +kernel) (by decide +kernel), fun _ h => absurd h List.not_mem_nil⟩⟩⟩⟩⟩
def xR8 : String := "SilenceBall$Scene"
def xT8 : u_T := fun k => match k with
  | 0 => ("SilenceBall$Scene", "house", "LSilenceBall$House;", true)
  | 1 => ("SilenceBall$Scene", "place", "[I", true)
  | 2 => ("SilenceBall$Scene", "breath", "[I", true)
  | 3 => ("SilenceBall$Scene", "state", "[I", true)
  | 4 => ("SilenceBall$Scene", "belt", "[I", true)
  | 5 => ("SilenceBall$Scene", "busy", "I", false)
  | 6 => ("SilenceBall$Scene", "gaps", "I", false)
  | 7 => ("SilenceBall$Scene", "depth", "I", false)
  | _ => ("SilenceBall$Scene", "minutes", "I", false)
def xY8 : Nat → FieldType := fun k => match k with
  | 0 => .object "SilenceBall$House"
  | 1 => .array .int
  | 2 => .array .int
  | 3 => .array .int
  | 4 => .array .int
  | 5 => .int
  | 6 => .int
  | 7 => .int
  | _ => .int
theorem xN8 : ∀ a, a < 9 → ∀ b, b < 9 → a ≠ b → (xT8 a).2.1 ≠ (xT8 b).2.1 := by decide +kernel
theorem xP8 : ∀ k, k < 9 → parseFieldDescriptor (xT8 k).2.2.1 = some (xY8 k) := by decide +kernel
theorem xI8 : ∀ w ∈ u_ws xR8 xT8 9, w ∈ xG := by
  show ∀ w ∈ [u_lay xR8 xT8 0, u_lay xR8 xT8 1, u_lay xR8 xT8 2, u_lay xR8 xT8 3, u_lay xR8 xT8 4, u_lay xR8 xT8 5, u_lay xR8 xT8 6, u_lay xR8 xT8 7, u_lay xR8 xT8 8], w ∈ xG
  exact List.forall_mem_cons.mpr ⟨xG_in 388 (by decide +kernel) (by decide +kernel), List.forall_mem_cons.mpr ⟨xG_in 390 (by decide +kernel) (by decide +kernel), List.forall_mem_cons.mpr ⟨xG_in 392 (by decide +kernel) (by decide +kernel), List.forall_mem_cons.mpr ⟨xG_in 394 (by decide +kernel) (by decide +kernel), List.forall_mem_cons.mpr ⟨xG_in 396 (by decide +kernel) (by decide +kernel), List.forall_mem_cons.mpr ⟨xG_in 398 (by decide +kernel) (by decide +kernel), List.forall_mem_cons.mpr ⟨xG_in 400 (by decide +kernel) (by decide +kernel), List.forall_mem_cons.mpr ⟨xG_in 402 (by decide +kernel) (by decide +kernel), List.forall_mem_cons.mpr ⟨xG_in 404 (by decide +kernel) (by decide +kernel), fun _ h => absurd h List.not_mem_nil⟩⟩⟩⟩⟩⟩⟩⟩⟩
def xR9 : String := "SilenceBall$Seen"
def xT9 : u_T := fun k => match k with
  | 0 => ("SilenceBall$Seen", "many", "I", false)
  | 1 => ("SilenceBall$Seen", "depth", "[I", true)
  | _ => ("SilenceBall$Seen", "minute", "[I", true)
def xY9 : Nat → FieldType := fun k => match k with
  | 0 => .int
  | 1 => .array .int
  | _ => .array .int
theorem xN9 : ∀ a, a < 3 → ∀ b, b < 3 → a ≠ b → (xT9 a).2.1 ≠ (xT9 b).2.1 := by decide +kernel
theorem xP9 : ∀ k, k < 3 → parseFieldDescriptor (xT9 k).2.2.1 = some (xY9 k) := by decide +kernel
theorem xI9 : ∀ w ∈ u_ws xR9 xT9 3, w ∈ xG := by
  show ∀ w ∈ [u_lay xR9 xT9 0, u_lay xR9 xT9 1, u_lay xR9 xT9 2], w ∈ xG
  exact List.forall_mem_cons.mpr ⟨xG_in 444 (by decide +kernel) (by decide +kernel), List.forall_mem_cons.mpr ⟨xG_in 446 (by decide +kernel) (by decide +kernel), List.forall_mem_cons.mpr ⟨xG_in 448 (by decide +kernel) (by decide +kernel), fun _ h => absurd h List.not_mem_nil⟩⟩⟩
def xR10 : String := "SilenceBall$Tape"
def xT10 : u_T := fun k => match k with
  | 0 => ("SilenceBall$Tape", "signs", "[C", true)
  | 1 => ("SilenceBall$Tape", "length", "I", false)
  | 2 => ("SilenceBall$Tape", "next", "I", false)
  | 3 => ("SilenceBall$Tape", "place", "I", false)
  | 4 => ("SilenceBall$Tape", "kind", "I", false)
  | 5 => ("SilenceBall$Tape", "value", "I", false)
  | 6 => ("SilenceBall$Tape", "letters", "J", false)
  | _ => ("SilenceBall$Tape", "fault", "I", false)
def xY10 : Nat → FieldType := fun k => match k with
  | 0 => .array .char
  | 1 => .int
  | 2 => .int
  | 3 => .int
  | 4 => .int
  | 5 => .int
  | 6 => .long
  | _ => .int
theorem xN10 : ∀ a, a < 8 → ∀ b, b < 8 → a ≠ b → (xT10 a).2.1 ≠ (xT10 b).2.1 := by decide +kernel
theorem xP10 : ∀ k, k < 8 → parseFieldDescriptor (xT10 k).2.2.1 = some (xY10 k) := by decide +kernel
theorem xI10 : ∀ w ∈ u_ws xR10 xT10 8, w ∈ xG := by
  show ∀ w ∈ [u_lay xR10 xT10 0, u_lay xR10 xT10 1, u_lay xR10 xT10 2, u_lay xR10 xT10 3, u_lay xR10 xT10 4, u_lay xR10 xT10 5, u_lay xR10 xT10 6, u_lay xR10 xT10 7], w ∈ xG
  exact List.forall_mem_cons.mpr ⟨xG_in 174 (by decide +kernel) (by decide +kernel), List.forall_mem_cons.mpr ⟨xG_in 176 (by decide +kernel) (by decide +kernel), List.forall_mem_cons.mpr ⟨xG_in 178 (by decide +kernel) (by decide +kernel), List.forall_mem_cons.mpr ⟨xG_in 180 (by decide +kernel) (by decide +kernel), List.forall_mem_cons.mpr ⟨xG_in 182 (by decide +kernel) (by decide +kernel), List.forall_mem_cons.mpr ⟨xG_in 184 (by decide +kernel) (by decide +kernel), List.forall_mem_cons.mpr ⟨xG_in 186 (by decide +kernel) (by decide +kernel), List.forall_mem_cons.mpr ⟨xG_in 188 (by decide +kernel) (by decide +kernel), fun _ h => absurd h List.not_mem_nil⟩⟩⟩⟩⟩⟩⟩⟩
def xR11 : String := "SilenceBall"
def xT11 : u_T := fun k => match k with
  | 0 => ("SilenceBall", "tape", "LSilenceBall$Tape;", true)
  | 1 => ("SilenceBall", "house", "LSilenceBall$House;", true)
  | 2 => ("SilenceBall", "roomReader", "LSilenceBall$RoomReader;", true)
  | 3 => ("SilenceBall", "evening", "LSilenceBall$Evening;", true)
  | 4 => ("SilenceBall", "draftEvening", "LSilenceBall$Evening;", true)
  | 5 => ("SilenceBall", "now", "LSilenceBall$Scene;", true)
  | 6 => ("SilenceBall", "ahead", "LSilenceBall$Scene;", true)
  | 7 => ("SilenceBall", "acts", "LSilenceBall$Acts;", true)
  | 8 => ("SilenceBall", "marks", "[LSilenceBall$Mark;", true)
  | 9 => ("SilenceBall", "seen", "LSilenceBall$Seen;", true)
  | 10 => ("SilenceBall", "inquest", "LSilenceBall$Inquest;", true)
  | _ => ("SilenceBall", "rescue", "LSilenceBall$Rescue;", true)
def xY11 : Nat → FieldType := fun k => match k with
  | 0 => .object "SilenceBall$Tape"
  | 1 => .object "SilenceBall$House"
  | 2 => .object "SilenceBall$RoomReader"
  | 3 => .object "SilenceBall$Evening"
  | 4 => .object "SilenceBall$Evening"
  | 5 => .object "SilenceBall$Scene"
  | 6 => .object "SilenceBall$Scene"
  | 7 => .object "SilenceBall$Acts"
  | 8 => .array (.object "SilenceBall$Mark")
  | 9 => .object "SilenceBall$Seen"
  | 10 => .object "SilenceBall$Inquest"
  | _ => .object "SilenceBall$Rescue"
theorem xN11 : ∀ a, a < 12 → ∀ b, b < 12 → a ≠ b → (xT11 a).2.1 ≠ (xT11 b).2.1 := by decide +kernel
theorem xP11 : ∀ k, k < 12 → parseFieldDescriptor (xT11 k).2.2.1 = some (xY11 k) := by decide +kernel
theorem xI11 : ∀ w ∈ u_ws xR11 xT11 12, w ∈ xG := by
  show ∀ w ∈ [u_lay xR11 xT11 0, u_lay xR11 xT11 1, u_lay xR11 xT11 2, u_lay xR11 xT11 3, u_lay xR11 xT11 4, u_lay xR11 xT11 5, u_lay xR11 xT11 6, u_lay xR11 xT11 7, u_lay xR11 xT11 8, u_lay xR11 xT11 9, u_lay xR11 xT11 10, u_lay xR11 xT11 11], w ∈ xG
  exact List.forall_mem_cons.mpr ⟨xG_in 518 (by decide +kernel) (by decide +kernel), List.forall_mem_cons.mpr ⟨xG_in 520 (by decide +kernel) (by decide +kernel), List.forall_mem_cons.mpr ⟨xG_in 522 (by decide +kernel) (by decide +kernel), List.forall_mem_cons.mpr ⟨xG_in 524 (by decide +kernel) (by decide +kernel), List.forall_mem_cons.mpr ⟨xG_in 526 (by decide +kernel) (by decide +kernel), List.forall_mem_cons.mpr ⟨xG_in 528 (by decide +kernel) (by decide +kernel), List.forall_mem_cons.mpr ⟨xG_in 530 (by decide +kernel) (by decide +kernel), List.forall_mem_cons.mpr ⟨xG_in 532 (by decide +kernel) (by decide +kernel), List.forall_mem_cons.mpr ⟨xG_in 534 (by decide +kernel) (by decide +kernel), List.forall_mem_cons.mpr ⟨xG_in 536 (by decide +kernel) (by decide +kernel), List.forall_mem_cons.mpr ⟨xG_in 538 (by decide +kernel) (by decide +kernel), List.forall_mem_cons.mpr ⟨xG_in 540 (by decide +kernel) (by decide +kernel), fun _ h => absurd h List.not_mem_nil⟩⟩⟩⟩⟩⟩⟩⟩⟩⟩⟩⟩
def xR12 : String := "SilenceBallModel"
def xT12 : u_T := fun k => match k with
  | 0 => ("SilenceBallModel", "thrown", "I", false)
  | 1 => ("SilenceBallModel", "tape", "[I", true)
  | 2 => ("SilenceBallModel", "taped", "I", false)
  | 3 => ("SilenceBallModel", "size", "I", false)
  | 4 => ("SilenceBallModel", "sort", "[I", true)
  | 5 => ("SilenceBallModel", "place", "[I", true)
  | 6 => ("SilenceBallModel", "value", "[J", true)
  | 7 => ("SilenceBallModel", "at", "I", false)
  | 8 => ("SilenceBallModel", "fault", "I", false)
  | 9 => ("SilenceBallModel", "words", "[J", true)
  | 10 => ("SilenceBallModel", "rooms", "[I", true)
  | 11 => ("SilenceBallModel", "op", "[I", true)
  | 12 => ("SilenceBallModel", "arg", "[I", true)
  | 13 => ("SilenceBallModel", "codes", "I", false)
  | 14 => ("SilenceBallModel", "names", "[J", true)
  | 15 => ("SilenceBallModel", "readNames", "[J", true)
  | 16 => ("SilenceBallModel", "nameOf", "[I", true)
  | 17 => ("SilenceBallModel", "readNameOf", "[I", true)
  | 18 => ("SilenceBallModel", "namesMany", "I", false)
  | 19 => ("SilenceBallModel", "readMany", "I", false)
  | 20 => ("SilenceBallModel", "once", "I", false)
  | 21 => ("SilenceBallModel", "lines", "[I", true)
  | 22 => ("SilenceBallModel", "facts", "[I", true)
  | 23 => ("SilenceBallModel", "pile", "[I", true)
  | 24 => ("SilenceBallModel", "state", "[I", true)
  | 25 => ("SilenceBallModel", "undos", "I", false)
  | 26 => ("SilenceBallModel", "isMarked", "[Z", true)
  | 27 => ("SilenceBallModel", "to", "[I", true)
  | 28 => ("SilenceBallModel", "by", "[I", true)
  | 29 => ("SilenceBallModel", "bestTo", "[I", true)
  | 30 => ("SilenceBallModel", "bestBy", "[I", true)
  | 31 => ("SilenceBallModel", "mostCast", "I", false)
  | 32 => ("SilenceBallModel", "depths", "[I", true)
  | _ => ("SilenceBallModel", "g", "J", false)
def xY12 : Nat → FieldType := fun k => match k with
  | 0 => .int
  | 1 => .array .int
  | 2 => .int
  | 3 => .int
  | 4 => .array .int
  | 5 => .array .int
  | 6 => .array .long
  | 7 => .int
  | 8 => .int
  | 9 => .array .long
  | 10 => .array .int
  | 11 => .array .int
  | 12 => .array .int
  | 13 => .int
  | 14 => .array .long
  | 15 => .array .long
  | 16 => .array .int
  | 17 => .array .int
  | 18 => .int
  | 19 => .int
  | 20 => .int
  | 21 => .array .int
  | 22 => .array .int
  | 23 => .array .int
  | 24 => .array .int
  | 25 => .int
  | 26 => .array .boolean
  | 27 => .array .int
  | 28 => .array .int
  | 29 => .array .int
  | 30 => .array .int
  | 31 => .int
  | 32 => .array .int
  | _ => .long
theorem xN12 : ∀ a, a < 34 → ∀ b, b < 34 → a ≠ b → (xT12 a).2.1 ≠ (xT12 b).2.1 := by decide +kernel
theorem xP12 : ∀ k, k < 34 → parseFieldDescriptor (xT12 k).2.2.1 = some (xY12 k) := by decide +kernel
theorem xI12 : ∀ w ∈ u_ws xR12 xT12 34, w ∈ xG := by
  show ∀ w ∈ [u_lay xR12 xT12 0, u_lay xR12 xT12 1, u_lay xR12 xT12 2, u_lay xR12 xT12 3, u_lay xR12 xT12 4, u_lay xR12 xT12 5, u_lay xR12 xT12 6, u_lay xR12 xT12 7, u_lay xR12 xT12 8, u_lay xR12 xT12 9, u_lay xR12 xT12 10, u_lay xR12 xT12 11, u_lay xR12 xT12 12, u_lay xR12 xT12 13, u_lay xR12 xT12 14, u_lay xR12 xT12 15, u_lay xR12 xT12 16, u_lay xR12 xT12 17, u_lay xR12 xT12 18, u_lay xR12 xT12 19, u_lay xR12 xT12 20, u_lay xR12 xT12 21, u_lay xR12 xT12 22, u_lay xR12 xT12 23, u_lay xR12 xT12 24, u_lay xR12 xT12 25, u_lay xR12 xT12 26, u_lay xR12 xT12 27, u_lay xR12 xT12 28, u_lay xR12 xT12 29, u_lay xR12 xT12 30, u_lay xR12 xT12 31, u_lay xR12 xT12 32, u_lay xR12 xT12 33], w ∈ xG
  exact List.forall_mem_cons.mpr ⟨xG_in 1542 (by decide +kernel) (by decide +kernel), List.forall_mem_cons.mpr ⟨xG_in 1544 (by decide +kernel) (by decide +kernel), List.forall_mem_cons.mpr ⟨xG_in 1546 (by decide +kernel) (by decide +kernel), List.forall_mem_cons.mpr ⟨xG_in 1548 (by decide +kernel) (by decide +kernel), List.forall_mem_cons.mpr ⟨xG_in 1550 (by decide +kernel) (by decide +kernel), List.forall_mem_cons.mpr ⟨xG_in 1552 (by decide +kernel) (by decide +kernel), List.forall_mem_cons.mpr ⟨xG_in 1554 (by decide +kernel) (by decide +kernel), List.forall_mem_cons.mpr ⟨xG_in 1556 (by decide +kernel) (by decide +kernel), List.forall_mem_cons.mpr ⟨xG_in 1558 (by decide +kernel) (by decide +kernel), List.forall_mem_cons.mpr ⟨xG_in 1560 (by decide +kernel) (by decide +kernel), List.forall_mem_cons.mpr ⟨xG_in 1562 (by decide +kernel) (by decide +kernel), List.forall_mem_cons.mpr ⟨xG_in 1564 (by decide +kernel) (by decide +kernel), List.forall_mem_cons.mpr ⟨xG_in 1566 (by decide +kernel) (by decide +kernel), List.forall_mem_cons.mpr ⟨xG_in 1568 (by decide +kernel) (by decide +kernel), List.forall_mem_cons.mpr ⟨xG_in 1570 (by decide +kernel) (by decide +kernel), List.forall_mem_cons.mpr ⟨xG_in 1572 (by decide +kernel) (by decide +kernel), List.forall_mem_cons.mpr ⟨xG_in 1574 (by decide +kernel) (by decide +kernel), List.forall_mem_cons.mpr ⟨xG_in 1576 (by decide +kernel) (by decide +kernel), List.forall_mem_cons.mpr ⟨xG_in 1578 (by decide +kernel) (by decide +kernel), List.forall_mem_cons.mpr ⟨xG_in 1580 (by decide +kernel) (by decide +kernel), List.forall_mem_cons.mpr ⟨xG_in 1582 (by decide +kernel) (by decide +kernel), List.forall_mem_cons.mpr ⟨xG_in 1584 (by decide +kernel) (by decide +kernel), List.forall_mem_cons.mpr ⟨xG_in 1586 (by decide +kernel) (by decide +kernel), List.forall_mem_cons.mpr ⟨xG_in 1588 (by decide +kernel) (by decide +kernel), List.forall_mem_cons.mpr ⟨xG_in 1590 (by decide +kernel) (by decide +kernel), List.forall_mem_cons.mpr ⟨xG_in 1592 (by decide +kernel) (by decide +kernel), List.forall_mem_cons.mpr ⟨xG_in 1594 (by decide +kernel) (by decide +kernel), List.forall_mem_cons.mpr ⟨xG_in 1596 (by decide +kernel) (by decide +kernel), List.forall_mem_cons.mpr ⟨xG_in 1598 (by decide +kernel) (by decide +kernel), List.forall_mem_cons.mpr ⟨xG_in 1600 (by decide +kernel) (by decide +kernel), List.forall_mem_cons.mpr ⟨xG_in 1602 (by decide +kernel) (by decide +kernel), List.forall_mem_cons.mpr ⟨xG_in 1604 (by decide +kernel) (by decide +kernel), List.forall_mem_cons.mpr ⟨xG_in 1606 (by decide +kernel) (by decide +kernel), List.forall_mem_cons.mpr ⟨xG_in 1608 (by decide +kernel) (by decide +kernel), fun _ h => absurd h List.not_mem_nil⟩⟩⟩⟩⟩⟩⟩⟩⟩⟩⟩⟩⟩⟩⟩⟩⟩⟩⟩⟩⟩⟩⟩⟩⟩⟩⟩⟩⟩⟩⟩⟩⟩⟩
abbrev xcl : List vw_C := [(xR0, xT0, 3), (xR1, xT1, 5), (xR2, xT2, 17), (xR3, xT3, 1), (xR4, xT4, 4), (xR5, xT5, 3), (xR6, xT6, 7), (xR7, xT7, 5), (xR8, xT8, 9), (xR9, xT9, 3), (xR10, xT10, 8), (xR11, xT11, 12), (xR12, xT12, 34)]
abbrev XQ : Type := Nat × Nat × Nat
/-- the slots of a class: .inl 0 an int, .inl 1 a long, .inl 3 a boolean, .inr f a reference, by the object's number -/
def xlay0 : List (Nat ⊕ (Nat → XQ)) := [.inr (fun i => (0, i, 1)), .inl 0, .inl 0]
def xlay1 : List (Nat ⊕ (Nat → XQ)) := [.inl 0, .inr (fun i => (1, i, 2)), .inr (fun i => (1, i, 3)), .inr (fun i => (1, i, 4)), .inr (fun i => (1, i, 5))]
def xlay2 : List (Nat ⊕ (Nat → XQ)) := [.inl 0, .inl 0, .inl 0, .inl 0, .inl 0, .inr (fun i => (2, i, 6)), .inr (fun i => (2, i, 7)), .inr (fun i => (2, i, 8)), .inr (fun i => (2, i, 9)), .inr (fun i => (2, i, 10)), .inr (fun i => (2, i, 11)), .inr (fun i => (2, i, 12)), .inr (fun i => (2, i, 13)), .inr (fun i => (2, i, 14)), .inr (fun i => (2, i, 15)), .inr (fun i => (2, i, 16)), .inr (fun i => (4, i, 0))]
def xlay3 : List (Nat ⊕ (Nat → XQ)) := [.inr (fun i => (3, i, 1))]
def xlay4 : List (Nat ⊕ (Nat → XQ)) := [.inr (fun i => (4, i, 1)), .inl 0, .inr (fun i => (4, i, 3)), .inl 0]
def xlay5 : List (Nat ⊕ (Nat → XQ)) := [.inl 3, .inr (fun i => (8, 18 + i, 0)), .inr (fun i => (9, 1 + i, 0))]
def xlay6 : List (Nat ⊕ (Nat → XQ)) := [.inr (fun _ => (2, 0, 0)), .inr (fun _ => (8, 0, 0)), .inl 0, .inr (fun i => (6, i, 4)), .inr (fun i => (6, i, 5)), .inr (fun i => (6, i, 6)), .inr (fun i => (6, i, 7))]
def xlay7 : List (Nat ⊕ (Nat → XQ)) := [.inr (fun _ => (2, 1, 0)), .inr (fun _ => (10, 0, 0)), .inl 3, .inl 3, .inl 3]
def xlay8 : List (Nat ⊕ (Nat → XQ)) := [.inr (fun _ => (2, 0, 0)), .inr (fun i => (8, i, 2)), .inr (fun i => (8, i, 3)), .inr (fun i => (8, i, 4)), .inr (fun i => (8, i, 5)), .inl 0, .inl 0, .inl 0, .inl 0]
def xlay9 : List (Nat ⊕ (Nat → XQ)) := [.inl 0, .inr (fun i => (9, i, 2)), .inr (fun i => (9, i, 3))]
def xlay10 : List (Nat ⊕ (Nat → XQ)) := [.inr (fun i => (10, i, 1)), .inl 0, .inl 0, .inl 0, .inl 0, .inl 0, .inl 1, .inl 0]
def xlay11 : List (Nat ⊕ (Nat → XQ)) := [.inr (fun _ => (10, 0, 0)), .inr (fun _ => (2, 0, 0)), .inr (fun _ => (7, 0, 0)), .inr (fun _ => (1, 0, 0)), .inr (fun _ => (1, 1, 0)), .inr (fun _ => (8, 0, 0)), .inr (fun _ => (8, 1, 0)), .inr (fun _ => (0, 0, 0)), .inr (fun i => (11, i, 9)), .inr (fun _ => (9, 0, 0)), .inr (fun _ => (3, 0, 0)), .inr (fun _ => (6, 0, 0))]
def xlay12 : List (Nat ⊕ (Nat → XQ)) := [.inl 0, .inr (fun i => (12, i, 2)), .inl 0, .inl 0, .inr (fun i => (12, i, 5)), .inr (fun i => (12, i, 6)), .inr (fun i => (12, i, 7)), .inl 0, .inl 0, .inr (fun i => (12, i, 10)), .inr (fun i => (12, i, 11)), .inr (fun i => (12, i, 12)), .inr (fun i => (12, i, 13)), .inl 0, .inr (fun i => (12, i, 15)), .inr (fun i => (12, i, 16)), .inr (fun i => (12, i, 17)), .inr (fun i => (12, i, 18)), .inl 0, .inl 0, .inl 0, .inr (fun i => (12, i, 22)), .inr (fun i => (12, i, 23)), .inr (fun i => (12, i, 24)), .inr (fun i => (12, i, 25)), .inl 0, .inr (fun i => (12, i, 27)), .inr (fun i => (12, i, 28)), .inr (fun i => (12, i, 29)), .inr (fun i => (12, i, 30)), .inr (fun i => (12, i, 31)), .inl 0, .inr (fun i => (12, i, 33)), .inl 1]
def xlay (t : Nat) : List (Nat ⊕ (Nat → XQ)) := [xlay0, xlay1, xlay2, xlay3, xlay4, xlay5, xlay6, xlay7, xlay8, xlay9, xlay10, xlay11, xlay12].getD t []
/-- the arrays of a class by the slot that holds them: kind (0 int, 1 long, 2 char, 3 boolean, 4 and 5 references, 8 the script, 9 none), length -/
def xarr (t j : Nat) : Nat × Nat := ([[(4, 16), (9, 0), (9, 0)], [(9, 0), (0, 40), (0, 40), (0, 40), (0, 40)], [(9, 0), (9, 0), (9, 0), (9, 0), (9, 0), (1, 6), (0, 6), (0, 6), (0, 6), (0, 6), (0, 6), (1, 5), (0, 5), (1, 3), (0, 3), (0, 3), (9, 0)], [(0, 210)], [(0, 1000), (9, 0), (0, 32), (9, 0)], [(9, 0), (9, 0), (9, 0)], [(9, 0), (9, 0), (9, 0), (0, 3), (0, 3), (0, 3), (0, 3)], [(9, 0), (9, 0), (9, 0), (9, 0), (9, 0)], [(9, 0), (0, 6), (0, 6), (0, 6), (0, 6), (9, 0), (9, 0), (9, 0), (9, 0)], [(9, 0), (0, 8), (0, 8)], [(2, 1000), (9, 0), (9, 0), (9, 0), (9, 0), (9, 0), (9, 0), (9, 0)], [(9, 0), (9, 0), (9, 0), (9, 0), (9, 0), (9, 0), (9, 0), (9, 0), (5, 4), (9, 0), (9, 0), (9, 0)], [(9, 0), (0, 1000), (9, 0), (9, 0), (0, 1002), (0, 1002), (1, 1002), (9, 0), (9, 0), (1, 27), (0, 120), (0, 2200), (0, 2200), (9, 0), (1, 14), (1, 14), (0, 14), (0, 14), (9, 0), (9, 0), (9, 0), (0, 330), (0, 4), (0, 1100), (0, 1081), (9, 0), (3, 4), (0, 3), (0, 3), (0, 3), (0, 3), (9, 0), (0, 210), (9, 0)], [(8, 0)], [(1, 1)]].getD t []).getD j (9, 0)
def xrow (kind k : Nat) : XQ := if kind = 4 then (8, 2 + k, 0) else (5, k, 0)
/-- all cells: class, number, 0 the object itself or 1 + the slot of its array -/
def xdom : List XQ := [(0, 0, 0), (0, 0, 1), (1, 0, 0), (1, 0, 2), (1, 0, 3), (1, 0, 4), (1, 0, 5), (1, 1, 0), (1, 1, 2), (1, 1, 3), (1, 1, 4), (1, 1, 5), (2, 0, 0), (2, 0, 6), (2, 0, 7), (2, 0, 8), (2, 0, 9), (2, 0, 10), (2, 0, 11), (2, 0, 12), (2, 0, 13), (2, 0, 14), (2, 0, 15), (2, 0, 16), (2, 1, 0), (2, 1, 6), (2, 1, 7), (2, 1, 8), (2, 1, 9), (2, 1, 10), (2, 1, 11), (2, 1, 12), (2, 1, 13), (2, 1, 14), (2, 1, 15), (2, 1, 16), (3, 0, 0), (3, 0, 1), (4, 0, 0), (4, 0, 1), (4, 0, 3), (4, 1, 0), (4, 1, 1), (4, 1, 3), (5, 0, 0), (5, 1, 0), (5, 2, 0), (5, 3, 0), (6, 0, 0), (6, 0, 4), (6, 0, 5), (6, 0, 6), (6, 0, 7), (7, 0, 0), (8, 0, 0), (8, 0, 2), (8, 0, 3), (8, 0, 4), (8, 0, 5), (8, 1, 0), (8, 1, 2), (8, 1, 3), (8, 1, 4), (8, 1, 5), (8, 2, 0), (8, 2, 2), (8, 2, 3), (8, 2, 4), (8, 2, 5), (8, 3, 0), (8, 3, 2), (8, 3, 3), (8, 3, 4), (8, 3, 5), (8, 4, 0), (8, 4, 2), (8, 4, 3), (8, 4, 4), (8, 4, 5), (8, 5, 0), (8, 5, 2), (8, 5, 3), (8, 5, 4), (8, 5, 5), (8, 6, 0), (8, 6, 2), (8, 6, 3), (8, 6, 4), (8, 6, 5), (8, 7, 0), (8, 7, 2), (8, 7, 3), (8, 7, 4), (8, 7, 5), (8, 8, 0), (8, 8, 2), (8, 8, 3), (8, 8, 4), (8, 8, 5), (8, 9, 0), (8, 9, 2), (8, 9, 3), (8, 9, 4), (8, 9, 5), (8, 10, 0), (8, 10, 2), (8, 10, 3), (8, 10, 4), (8, 10, 5), (8, 11, 0), (8, 11, 2), (8, 11, 3), (8, 11, 4), (8, 11, 5), (8, 12, 0), (8, 12, 2), (8, 12, 3), (8, 12, 4), (8, 12, 5), (8, 13, 0), (8, 13, 2), (8, 13, 3), (8, 13, 4), (8, 13, 5), (8, 14, 0), (8, 14, 2), (8, 14, 3), (8, 14, 4), (8, 14, 5), (8, 15, 0), (8, 15, 2), (8, 15, 3), (8, 15, 4), (8, 15, 5), (8, 16, 0), (8, 16, 2), (8, 16, 3), (8, 16, 4), (8, 16, 5), (8, 17, 0), (8, 17, 2), (8, 17, 3), (8, 17, 4), (8, 17, 5), (8, 18, 0), (8, 18, 2), (8, 18, 3), (8, 18, 4), (8, 18, 5), (8, 19, 0), (8, 19, 2), (8, 19, 3), (8, 19, 4), (8, 19, 5), (8, 20, 0), (8, 20, 2), (8, 20, 3), (8, 20, 4), (8, 20, 5), (8, 21, 0), (8, 21, 2), (8, 21, 3), (8, 21, 4), (8, 21, 5), (9, 0, 0), (9, 0, 2), (9, 0, 3), (9, 1, 0), (9, 1, 2), (9, 1, 3), (9, 2, 0), (9, 2, 2), (9, 2, 3), (9, 3, 0), (9, 3, 2), (9, 3, 3), (9, 4, 0), (9, 4, 2), (9, 4, 3), (10, 0, 0), (10, 0, 1), (11, 0, 0), (11, 0, 9), (12, 0, 0), (12, 0, 2), (12, 0, 5), (12, 0, 6), (12, 0, 7), (12, 0, 10), (12, 0, 11), (12, 0, 12), (12, 0, 13), (12, 0, 15), (12, 0, 16), (12, 0, 17), (12, 0, 18), (12, 0, 22), (12, 0, 23), (12, 0, 24), (12, 0, 25), (12, 0, 27), (12, 0, 28), (12, 0, 29), (12, 0, 30), (12, 0, 31), (12, 0, 33), (14, 0, 1)]
end
section
/-! THE ABSTRACT MACHINE: values, memory, and an interpreter of decoded rows that stops ('none') where the machine could throw -/
abbrev XV : Type := Int32 ⊕ (Int64 ⊕ Option XQ)
abbrev XO : Type := (Nat → Int32) × (Nat → Int64) × (Nat → Nat → Int32) × (Nat → Nat → Int64)
abbrev XM : Type := Nat → Nat → XO
abbrev XR : Type := Option (Option XV × XM)
abbrev XF : Type := List XV → XM → XR
abbrev XL : Type := List (Option XV)
abbrev XE : Type := Nat × Instr × Nat × Nat × Int32 × Int64 × List (Int32 × Nat)
/-- callees: pool index, kind of the answer (0 none, 1 int, 2 long), how many arguments, the receiver's class (99 none), the function -/
abbrev XN : Type := List (Nat × Nat × Nat × Nat × XF)
abbrev xi (x : Int32) : XV := .inl x
abbrev xl (x : Int64) : XV := .inr (.inl x)
abbrev xr (t i k : Nat) : XV := .inr (.inr (some (t, i, k)))
abbrev xn : XV := .inr (.inr none)
def rI (μ : XM) (t i j : Nat) : Int32 := (μ t i).1 j
def rL (μ : XM) (t i j : Nat) : Int64 := (μ t i).2.1 j
def aI (μ : XM) (t i j : Nat) : Nat → Int32 := (μ t i).2.2.1 j
def aL (μ : XM) (t i j : Nat) : Nat → Int64 := (μ t i).2.2.2 j
def xset (μ : XM) (t i : Nat) (o : XO) : XM := fun t' i' => if t' = t ∧ i' = i then o else μ t' i'
def sI (μ : XM) (t i j : Nat) (x : Int32) : XM := xset μ t i (va_up (μ t i).1 j x, (μ t i).2)
def sL (μ : XM) (t i j : Nat) (x : Int64) : XM := xset μ t i ((μ t i).1, va_up (μ t i).2.1 j x, (μ t i).2.2)
/-- a whole row of ints is written anew -/
def wI (μ : XM) (t i j : Nat) (f : Nat → Int32) : XM := xset μ t i ((μ t i).1, (μ t i).2.1, va_up (μ t i).2.2.1 j f, (μ t i).2.2.2)
def wL (μ : XM) (t i j : Nat) (f : Nat → Int64) : XM := xset μ t i ((μ t i).1, (μ t i).2.1, (μ t i).2.2.1, va_up (μ t i).2.2.2 j f)
/-- one cell of a row -/
def pI (μ : XM) (t i j k : Nat) (x : Int32) : XM := wI μ t i j (upd (aI μ t i j) k x)
def pL (μ : XM) (t i j k : Nat) (x : Int64) : XM := wL μ t i j (vp_updL (aL μ t i j) k x)
/-- a value that is used below, named: memory, an int, a long (by choice, that nothing reckons them away) -/
theorem mS_ex : ∃ f : XM → (XM → XR) → XR, ∀ x k, f x k = k x := ⟨fun x k => k x, fun _ _ => rfl⟩
noncomputable def mS : XM → (XM → XR) → XR := Classical.choose mS_ex
theorem mS_eq (x : XM) (k : XM → XR) : mS x k = k x := Classical.choose_spec mS_ex x k
theorem vI_ex : ∃ f : Int32 → (Int32 → XR) → XR, ∀ x k, f x k = k x := ⟨fun x k => k x, fun _ _ => rfl⟩
noncomputable def vI : Int32 → (Int32 → XR) → XR := Classical.choose vI_ex
theorem vI_eq (x : Int32) (k : Int32 → XR) : vI x k = k x := Classical.choose_spec vI_ex x k
theorem vL_ex : ∃ f : Int64 → (Int64 → XR) → XR, ∀ x k, f x k = k x := ⟨fun x k => k x, fun _ _ => rfl⟩
noncomputable def vL : Int64 → (Int64 → XR) → XR := Classical.choose vL_ex
theorem vL_eq (x : Int64) (k : Int64 → XR) : vL x k = k x := Classical.choose_spec vL_ex x k
/-- a check that the table decides -/
def xsc (b : Bool) (r : XR) : XR := bif b then r else none
/-- a check: else the interpreter stops; a branch (conditions are never reckoned) -/
theorem xck_ex : ∃ f : Bool → XR → XR, ∀ b r, f b r = bif b then r else none := ⟨fun b r => bif b then r else none, fun _ _ => rfl⟩
noncomputable def xck : Bool → XR → XR := Classical.choose xck_ex
theorem xck_eq (b : Bool) (r : XR) : xck b r = bif b then r else none := Classical.choose_spec xck_ex b r
theorem xck_t {b : Bool} (h : b = true) (r : XR) : xck b r = r := by rw [xck_eq, h]; rfl
theorem xck_inv {b : Bool} {r : XR} {o : Option XV × XM} (h : xck b r = some o) : b = true ∧ r = some o := by
  rw [xck_eq] at h
  cases b
  · cases h
  · exact ⟨rfl, h⟩
noncomputable def xite (c : Prop) (a b : XR) : XR := @ite XR c (Classical.propDecidable c) a b
theorem xite_t {c : Prop} {a b : XR} (h : c) : xite c a b = a := if_pos h
theorem xite_f {c : Prop} {a b : XR} (h : ¬ c) : xite c a b = b := if_neg h
def xin (x : Int32) (n : Nat) : Bool := !(decide (x < 0)) && decide (x.toNatClampNeg < n)
def xbl (x : Int32) : Bool := decide (x = 0) || decide (x = 1)
/-- the results: nothing, an int, a boolean, a char, a long, a throw -/
def xrv (μ : XM) : XR := some (none, μ)
def xri (x : Int32) (μ : XM) : XR := some (some (xi x), μ)
def xrb (x : Int32) (μ : XM) : XR := bif xbl x then some (some (xi x), μ) else none
def xrc (x : Int32) (μ : XM) : XR := bif decide (vp_nar .char x = x) then some (some (xi x), μ) else none
def xrl (x : Int64) (μ : XM) : XR := some (some (xl x), μ)
def xrt (μ : XM) : XR := some (some (xr 99 0 0), μ)
/-- behind a call: its answer, then what goes on -/
def bV (r : XR) (k : XM → XR) : XR := match r with | some (none, μ) => k μ | _ => none
def bI (r : XR) (k : Int32 → XM → XR) : XR := match r with | some (some (.inl x), μ) => k x μ | _ => none
def bL (r : XR) (k : Int64 → XM → XR) : XR := match r with | some (some (.inr (.inl x)), μ) => k x μ | _ => none
noncomputable def xseek (a : Nat) (l : List XE) : List XE := List.rec [] (fun e l ih => bif Nat.beq e.1 a then e :: l else ih) l
noncomputable def xfind (a : Nat) (l : XN) : Option (Nat × Nat × Nat × XF) := List.rec none (fun e _ ih => bif Nat.beq e.1 a then some e.2 else ih) l
def xmask : Nat → XL → XL
  | _, [] => []
  | m, v :: l => (bif Nat.beq (m % 2) 1 then v else none) :: xmask (m / 2) l
def xpop : Nat → List XV → List XV → Option (List XV × List XV)
  | 0, acc, st => some (acc, st)
  | n + 1, acc, v :: st => xpop n (v :: acc) st
  | _ + 1, _, [] => none
def xcat (v : XV) : Nat := match v with | .inr (.inl _) => 2 | _ => 1
def xsum (st : List XV) : Nat := (st.map xcat).sum
def xlong (v : Option (Option XV)) : Bool := match v with | some (some (.inr (.inl _))) => true | _ => false
/-- a store's flag: 1: a long just below the place goes; 0: there is none (checked) -/
def xdl (b a : Nat) (L : XL) : XL := match b with | 0 => L | _ + 1 => L.set (a - 1) none
def xsk (b a : Nat) (L : XL) : Bool := match b with | 0 => !(xlong L[a - 1]?) | _ + 1 => true
noncomputable def xsw (K : Nat → XR) (x : Int32) (d : Nat) : List (Int32 × Nat) → XR
  | [] => K d
  | (v, t) :: l => xite (x = v) (K t) (xsw K x d l)
def xcpok (sp dp n : Int32) (n0 n1 : Nat) : Bool := !(decide (sp < 0)) && !(decide (dp < 0)) && !(decide (n < 0)) && decide (sp.toNatClampNeg + n.toNatClampNeg ≤ n0) && decide (dp.toNatClampNeg + n.toNatClampNeg ≤ n1)
abbrev XK : Type := List XE → XL → List XV → XM → XR
-- the rows by their shapes
def xo1 (f : Int32 → XV) (k : List XV → XR) (st : List XV) : XR := match st with | .inl x :: st => k (f x :: st) | _ => none
def xo1l (f : Int64 → XV) (k : List XV → XR) (st : List XV) : XR := match st with | .inr (.inl x) :: st => k (f x :: st) | _ => none
def xo2 (f : Int32 → Int32 → Int32) (k : List XV → XR) (st : List XV) : XR := match st with | .inl y :: .inl x :: st => k (xi (f x y) :: st) | _ => none
noncomputable def xo2n (f : Int32 → Int32 → Int32) (k : List XV → XR) (st : List XV) : XR := match st with | .inl y :: .inl x :: st => xite (y = 0) none (k (xi (f x y) :: st)) | _ => none
def xo2l (f : Int64 → Int64 → XV) (k : List XV → XR) (st : List XV) : XR := match st with | .inr (.inl y) :: .inr (.inl x) :: st => k (f x y :: st) | _ => none
noncomputable def xo2ln (f : Int64 → Int64 → Int64) (k : List XV → XR) (st : List XV) : XR := match st with | .inr (.inl y) :: .inr (.inl x) :: st => xite (y = 0) none (k (xl (f x y) :: st)) | _ => none
def xo2s (f : Int64 → Int32 → Int64) (k : List XV → XR) (st : List XV) : XR := match st with | .inl y :: .inr (.inl x) :: st => k (xl (f x y) :: st) | _ => none
def xldI (L : XL) (a : Nat) (k : XV → XR) : XR := match L[a]? with | some (some (.inl x)) => k (xi x) | _ => none
def xldL (L : XL) (a : Nat) (k : XV → XR) : XR := match L[a]? with | some (some (.inr (.inl x))) => k (xl x) | _ => none
def xldR (L : XL) (a : Nat) (k : XV → XR) : XR := match L[a]? with | some (some (.inr (.inr x))) => k (.inr (.inr x)) | _ => none
noncomputable def xstI (L : XL) (a b : Nat) (k : XL → List XV → XR) (st : List XV) : XR := match st, L[a]? with | .inl x :: st, some _ => xsc (xsk b a L) (vI x (fun x => k ((xdl b a L).set a (some (xi x))) st)) | _, _ => none
def xstR (L : XL) (a b : Nat) (k : XL → List XV → XR) (st : List XV) : XR := match st, L[a]? with | .inr (.inr x) :: st, some _ => xsc (xsk b a L) (k ((xdl b a L).set a (some (.inr (.inr x)))) st) | _, _ => none
noncomputable def xstL (L : XL) (a b : Nat) (k : XL → List XV → XR) (st : List XV) : XR := match st, L[a + 1]? with | .inr (.inl x) :: st, some _ => xsc (xsk b a L) (vL x (fun x => k (((xdl b a L).set (a + 1) none).set a (some (xl x))) st)) | _, _ => none
noncomputable def xinc (L : XL) (a : Nat) (c : Int32) (k : XL → XR) : XR := match L[a]? with | some (some (.inl x)) => xsc (xsk 0 a L) (vI (x + c) (fun y => k (L.set a (some (xi y))))) | _ => none
def xdup (k : List XV → XR) (st : List XV) : XR := match st with | .inl x :: st => k (xi x :: xi x :: st) | .inr (.inr x) :: st => k (.inr (.inr x) :: .inr (.inr x) :: st) | _ => none
def xdup2 (k : List XV → XR) (st : List XV) : XR := match st with | .inl y :: .inr (.inr x) :: st => k (xi y :: .inr (.inr x) :: xi y :: .inr (.inr x) :: st) | _ => none
def xpp (k : List XV → XR) (st : List XV) : XR := match st with | .inl _ :: st => k st | .inr (.inr _) :: st => k st | _ => none
def xgf (μ : XM) (a b : Nat) (k : List XV → XR) (st : List XV) : XR := match st with
  | .inr (.inr (some (t, i, 0))) :: st => xsc (Nat.beq t a) ((match (xlay a)[b]? with
    | some (.inl 1) => k (xl (rL μ a i b) :: st)
    | some (.inl _) => k (xi (rI μ a i b) :: st)
    | some (.inr f) => k (.inr (.inr (some (f i))) :: st)
    | none => none))
  | _ => none
noncomputable def xpf (μ : XM) (a b : Nat) (k : List XV → XM → XR) (st : List XV) : XR := match st with
  | v :: .inr (.inr (some (t, i, 0))) :: st => xsc (Nat.beq t a) ((match (xlay a)[b]?, v with
    | some (.inl 0), .inl x => mS (sI μ a i b x) (fun μ => k st μ)
    | some (.inl 1), .inr (.inl x) => mS (sL μ a i b x) (fun μ => k st μ)
    | some (.inl 3), .inl x => xck (xbl x) (mS (sI μ a i b x) (fun μ => k st μ))
    | _, _ => none))
  | _ => none
def xal (μ : XM) (k : List XV → XR) (st : List XV) : XR := match st with
  | .inr (.inr (some (t, i, j + 1))) :: st => (match xarr t j with
    | (8, _) => k (xi (rI μ t i j) :: st)
    | (9, _) => none
    | (_, n) => k (xi (nI n) :: st))
  | _ => none
/-- an element of an int, char, boolean row (by its kind), of the script too -/
noncomputable def xga (μ : XM) (kind : Nat) (k : List XV → XR) (st : List XV) : XR := match st with
  | .inl x :: .inr (.inr (some (t, i, j + 1))) :: st => (match xarr t j with
    | (8, _) => xsc (Nat.beq kind 0) (xck (xin x (rI μ t i j).toNatClampNeg) (k (xi (aI μ t i j x.toNatClampNeg) :: st)))
    | (kd, n) => xsc (Nat.beq kd kind) ((xck (xin x n) (k (xi (aI μ t i j x.toNatClampNeg) :: st)))))
  | _ => none
noncomputable def xgl (μ : XM) (k : List XV → XR) (st : List XV) : XR := match st with
  | .inl x :: .inr (.inr (some (t, i, j + 1))) :: st => (match xarr t j with
    | (kd, n) => xsc (Nat.beq kd 1) ((xck (xin x n) (k (xl (aL μ t i j x.toNatClampNeg) :: st)))))
  | _ => none
noncomputable def xgr (k : List XV → XR) (st : List XV) : XR := match st with
  | .inl x :: .inr (.inr (some (t, _, j + 1))) :: st => (match xarr t j with
    | (kd, n) => xsc (Nat.beq kd 4 || Nat.beq kd 5) ((xck (xin x n) (k (.inr (.inr (some (xrow kd x.toNatClampNeg))) :: st)))))
  | _ => none
noncomputable def xpa (μ : XM) (kind : Nat) (f : Int32 → Int32) (ok : Int32 → Bool) (k : List XV → XM → XR) (st : List XV) : XR := match st with
  | .inl v :: .inl x :: .inr (.inr (some (t, i, j + 1))) :: st => (match xarr t j with
    | (kd, n) => xsc (Nat.beq kd kind) ((xck (xin x n && ok v) (mS (pI μ t i j x.toNatClampNeg (f v)) (fun μ => k st μ)))))
  | _ => none
noncomputable def xpl (μ : XM) (k : List XV → XM → XR) (st : List XV) : XR := match st with
  | .inr (.inl v) :: .inl x :: .inr (.inr (some (t, i, j + 1))) :: st => (match xarr t j with
    | (kd, n) => xsc (Nat.beq kd 1) ((xck (xin x n) (mS (pL μ t i j x.toNatClampNeg v) (fun μ => k st μ)))))
  | _ => none
noncomputable def xcp (μ : XM) (k : List XV → XM → XR) (st : List XV) : XR := match st with
  | .inl n :: .inl dp :: .inr (.inr (some (t1, i1, j1 + 1))) :: .inl sp :: .inr (.inr (some (t0, i0, j0 + 1))) :: st => (match xarr t0 j0, xarr t1 j1 with
    | (0, n0), (0, n1) => xck (xcpok sp dp n n0 n1) (mS (wI μ t1 i1 j1 (va_cpy (aI μ t0 i0 j0) (aI μ t1 i1 j1) sp.toNatClampNeg dp.toNatClampNeg n.toNatClampNeg)) (fun μ => k st μ))
    | (1, n0), (1, n1) => xck (xcpok sp dp n n0 n1) (mS (wL μ t1 i1 j1 (va_cpy (aL μ t0 i0 j0) (aL μ t1 i1 j1) sp.toNatClampNeg dp.toNatClampNeg n.toNatClampNeg)) (fun μ => k st μ))
    | _, _ => none)
  | _ => none
noncomputable def xca (env : XN) (idx a tg : Nat) (μ : XM) (as rest : List XV) (k : List XV → XM → XR) : XR := xsc (Nat.ble (xsum rest) 8) ((match xfind idx env with
    | some (rk, na, tg', F) => xsc (Nat.beq na a && Nat.beq tg' tg) ((match rk with
      | 0 => bV (F as μ) (fun μ => k rest μ)
      | 1 => bI (F as μ) (fun x μ => k (xi x :: rest) μ)
      | 2 => bL (F as μ) (fun x μ => k (xl x :: rest) μ)
      | _ => none))
    | none => none))
noncomputable def xcv (env : XN) (idx a b : Nat) (μ : XM) (k : List XV → XM → XR) (st : List XV) : XR := match xpop a [] st with
  | some (.inr (.inr (some (t, i, 0))) :: as, rest) => xsc (Nat.beq t b) (xca env idx a b μ (xr t i 0 :: as) rest k)
  | _ => none
noncomputable def xcs (env : XN) (idx a : Nat) (μ : XM) (k : List XV → XM → XR) (st : List XV) : XR := match xpop a [] st with
  | some (as, rest) => xca env idx a 99 μ as rest k
  | _ => none
noncomputable def xmn (k : List XV → XR) (st : List XV) : XR := match st with | .inl y :: .inl x :: st => xsc (Nat.ble (xsum st) 8) (k (xi (if y < x then y else x) :: st)) | _ => none
noncomputable def xmx (k : List XV → XR) (st : List XV) : XR := match st with | .inl y :: .inl x :: st => xsc (Nat.ble (xsum st) 8) (k (xi (if x < y then y else x) :: st)) | _ => none
noncomputable def xab (k : List XV → XR) (st : List XV) : XR := match st with | .inl x :: st => xsc (Nat.ble (xsum st) 8) (k (xi (if 0 ≤ x then x else 0 - x) :: st)) | _ => none
noncomputable def xif (cd : Jvm.ClassFile.Cond) (kt kf : List XV → XR) (st : List XV) : XR := match st with
  | .inl x :: st => (match cd with
    | .eq => xite (x = 0) (kt st) (kf st)
    | .ne => xite (x = 0) (kf st) (kt st)
    | .lt => xite (x < 0) (kt st) (kf st)
    | .ge => xite (x < 0) (kf st) (kt st)
    | .gt => xite (0 < x) (kt st) (kf st)
    | .le => xite (0 < x) (kf st) (kt st))
  | _ => none
noncomputable def xic (cd : Jvm.ClassFile.Cond) (kt kf : List XV → XR) (st : List XV) : XR := match st with
  | .inl y :: .inl x :: st => (match cd with
    | .eq => xite (x = y) (kt st) (kf st)
    | .ne => xite (x = y) (kf st) (kt st)
    | .lt => xite (x < y) (kt st) (kf st)
    | .ge => xite (x < y) (kf st) (kt st)
    | .gt => xite (y < x) (kt st) (kf st)
    | .le => xite (y < x) (kf st) (kt st))
  | _ => none
def xnl (kt kf : List XV → XR) (st : List XV) : XR := match st with
  | .inr (.inr none) :: st => kt st
  | .inr (.inr (some _)) :: st => kf st
  | _ => none
def xret (rt : Nat) (μ : XM) (st : List XV) : XR := match rt, st with
  | 1, [.inl x] => xri x μ
  | 2, [.inl x] => xrb x μ
  | 3, [.inl x] => xrc x μ
  | _, _ => none
noncomputable def xstep (A : Nat → XL → List XV → XM → XR) (tab : List XE) (env : XN) (rt : Nat) (rec : XK) (suf : List XE) (L : XL) (st : List XV) (μ : XM) : XR :=
  match suf with
  | [] => none
  | (pc, ins, a, b, c, d, sw) :: nx =>
    match ins with
    | .nop => A pc (xmask a L) st μ
    | .iconst _ => rec nx L (xi c :: st) μ
    | .bipush _ => rec nx L (xi c :: st) μ
    | .sipush _ => rec nx L (xi c :: st) μ
    | .ldc _ => (match b with | 0 => rec nx L (xi c :: st) μ | _ + 1 => rec nx L (xr 15 a 0 :: st) μ)
    | .ldc_w _ => rec nx L (xi c :: st) μ
    | .lconst _ => rec nx L (xl d :: st) μ
    | .ldc2_w _ => rec nx L (xl d :: st) μ
    | .aconst_null => rec nx L (xn :: st) μ
    | .iload_n _ => xldI L a (fun v => rec nx L (v :: st) μ)
    | .iload _ => xldI L a (fun v => rec nx L (v :: st) μ)
    | .lload_n _ => xldL L a (fun v => rec nx L (v :: st) μ)
    | .lload _ => xldL L a (fun v => rec nx L (v :: st) μ)
    | .aload_n _ => xldR L a (fun v => rec nx L (v :: st) μ)
    | .aload _ => xldR L a (fun v => rec nx L (v :: st) μ)
    | .istore_n _ => xstI L a b (fun L st => rec nx L st μ) st
    | .istore _ => xstI L a b (fun L st => rec nx L st μ) st
    | .lstore_n _ => xstL L a b (fun L st => rec nx L st μ) st
    | .lstore _ => xstL L a b (fun L st => rec nx L st μ) st
    | .astore_n _ => xstR L a b (fun L st => rec nx L st μ) st
    | .astore _ => xstR L a b (fun L st => rec nx L st μ) st
    | .iinc _ _ => xinc L a c (fun L => rec nx L st μ)
    | .iadd => xo2 (fun x y => x + y) (fun st => rec nx L st μ) st
    | .isub => xo2 (fun x y => x - y) (fun st => rec nx L st μ) st
    | .imul => xo2 (fun x y => x * y) (fun st => rec nx L st μ) st
    | .iand => xo2 (fun x y => x &&& y) (fun st => rec nx L st μ) st
    | .ior => xo2 (fun x y => x ||| y) (fun st => rec nx L st μ) st
    | .ixor => xo2 (fun x y => x ^^^ y) (fun st => rec nx L st μ) st
    | .ishl => xo2 (fun x y => x <<< (y &&& 31)) (fun st => rec nx L st μ) st
    | .ishr => xo2 (fun x y => x >>> (y &&& 31)) (fun st => rec nx L st μ) st
    | .iushr => xo2 (fun x y => (x.toUInt32 >>> (y.toUInt32 &&& Int32.toUInt32 31)).toInt32) (fun st => rec nx L st μ) st
    | .idiv => xo2n (fun x y => x / y) (fun st => rec nx L st μ) st
    | .irem => xo2n (fun x y => x - x / y * y) (fun st => rec nx L st μ) st
    | .ineg => xo1 (fun x => xi (-x)) (fun st => rec nx L st μ) st
    | .i2l => xo1 (fun x => xl x.toInt64) (fun st => rec nx L st μ) st
    | .i2c => xo1 (fun x => xi (x.toUInt32 % 65536).toInt32) (fun st => rec nx L st μ) st
    | .l2i => xo1l (fun x => xi x.toInt32) (fun st => rec nx L st μ) st
    | .ladd => xo2l (fun x y => xl (x + y)) (fun st => rec nx L st μ) st
    | .lsub => xo2l (fun x y => xl (x - y)) (fun st => rec nx L st μ) st
    | .lmul => xo2l (fun x y => xl (x * y)) (fun st => rec nx L st μ) st
    | .land => xo2l (fun x y => xl (x &&& y)) (fun st => rec nx L st μ) st
    | .lor => xo2l (fun x y => xl (x ||| y)) (fun st => rec nx L st μ) st
    | .lcmp => xo2l (fun x y => xi (lg_cmp x y)) (fun st => rec nx L st μ) st
    | .ldiv => xo2ln (fun x y => x / y) (fun st => rec nx L st μ) st
    | .lrem => xo2ln (fun x y => x - x / y * y) (fun st => rec nx L st μ) st
    | .lshl => xo2s (fun x y => x <<< (y.toInt64 &&& 63)) (fun st => rec nx L st μ) st
    | .lshr => xo2s (fun x y => x >>> (y.toInt64 &&& 63)) (fun st => rec nx L st μ) st
    | .lushr => xo2s (fun x y => (x.toUInt64 >>> (y.toInt64.toUInt64 &&& Int64.toUInt64 63)).toInt64) (fun st => rec nx L st μ) st
    | .dup => xdup (fun st => rec nx L st μ) st
    | .dup2 => xdup2 (fun st => rec nx L st μ) st
    | .pop => xpp (fun st => rec nx L st μ) st
    | .getfield _ => xgf μ a b (fun st => rec nx L st μ) st
    | .putfield _ => xpf μ a b (fun st μ => rec nx L st μ) st
    | .arraylength => xal μ (fun st => rec nx L st μ) st
    | .iaload => xga μ 0 (fun st => rec nx L st μ) st
    | .caload => xga μ 2 (fun st => rec nx L st μ) st
    | .baload => xga μ 3 (fun st => rec nx L st μ) st
    | .laload => xgl μ (fun st => rec nx L st μ) st
    | .aaload => xgr (fun st => rec nx L st μ) st
    | .iastore => xpa μ 0 (fun v => v) (fun _ => true) (fun st μ => rec nx L st μ) st
    | .castore => xpa μ 2 (fun v => vp_nar .char v) (fun _ => true) (fun st μ => rec nx L st μ) st
    | .bastore => xpa μ 3 (fun v => v) xbl (fun st μ => rec nx L st μ) st
    | .lastore => xpl μ (fun st μ => rec nx L st μ) st
    | .invokevirtual idx => xcv env idx a b μ (fun st μ => rec nx L st μ) st
    | .invokestatic idx => (match b with
      | 0 => xcs env idx a μ (fun st μ => rec nx L st μ) st
      | 1 => xmx (fun st => rec nx L st μ) st
      | 2 => xmn (fun st => rec nx L st μ) st
      | 3 => xab (fun st => rec nx L st μ) st
      | 4 => xcp μ (fun st μ => xsc (Nat.ble (xsum st) 8) (rec nx L st μ)) st
      | _ => none)
    | .goto _ => rec (xseek a tab) L st μ
    | .ifCond cd _ => xif cd (fun st => rec (xseek a tab) L st μ) (fun st => rec nx L st μ) st
    | .if_icmp cd _ => xic cd (fun st => rec (xseek a tab) L st μ) (fun st => rec nx L st μ) st
    | .ifnull _ => xnl (fun st => rec (xseek a tab) L st μ) (fun st => rec nx L st μ) st
    | .ifnonnull _ => xnl (fun st => rec nx L st μ) (fun st => rec (xseek a tab) L st μ) st
    | .tableswitch _ _ _ _ => (match st with | .inl x :: st => xsw (fun t => rec (xseek t tab) L st μ) x a sw | _ => none)
    | .lookupswitch _ _ => (match st with | .inl x :: st => xsw (fun t => rec (xseek t tab) L st μ) x a sw | _ => none)
    | .ireturn => xret rt μ st
    | .lreturn => (match rt, st with | 4, [.inr (.inl x)] => xrl x μ | _, _ => none)
    | .return_ => (match rt, st with | 0, [] => xrv μ | _, _ => none)
    | .new _ => xrt μ
    | _ => none
/-- from a row on, at most so many rows -/
noncomputable def ex (A : Nat → XL → List XV → XM → XR) (tab : List XE) (env : XN) (rt : Nat) (k : Nat) : XK :=
  Nat.rec (fun _ _ _ _ => none) (fun _ ih => xstep A tab env rt ih) k
/-- behind a head's mark -/
def xhd (l : List XE) : List XE := match l with | (_, .nop, _) :: nx => nx | _ => []
/-- arriving at a head (a loop's, a join's), with fuel -/
noncomputable def arr (tab : List XE) (env : XN) (rt K : Nat) (n : Nat) : Nat → XL → List XV → XM → XR :=
  Nat.rec (fun _ _ _ _ => none) (fun _ ih h L st μ => ex ih tab env rt K (xhd (xseek h tab)) L st μ) n
/-- a whole body: from its first row, heads with fuel N -/
noncomputable def xrun (tab : List XE) (env : XN) (rt K N : Nat) (L : XL) (μ : XM) : XR := ex (arr tab env rt K N) tab env rt K tab L [] μ
end
section
/-! THE WORLD: what the heap holds for a memory -/
abbrev XP : Type := va_G × (Nat → ClassId) × (XQ → Nat) × (Nat → Prop) × (State → Heap → Prop) × Nat × (Nat → Int32)
abbrev xD (X : XP) : va_G := X.1
abbrev xcy (X : XP) : Nat → ClassId := X.2.1
abbrev xad (X : XP) : XQ → Nat := X.2.2.1
abbrev xA (X : XP) : Nat → Prop := X.2.2.2.1
abbrev xC (X : XP) : State → Heap → Prop := X.2.2.2.2.1
abbrev xLn (X : XP) : Nat := X.2.2.2.2.2.1
abbrev xxs (X : XP) : Nat → Int32 := X.2.2.2.2.2.2
def xc (X : XP) (v : XV) : Value := match v with
  | .inl x => .int x
  | .inr (.inl x) => .long x
  | .inr (.inr none) => .null
  | .inr (.inr (some q)) => .ref (xad X q)
def xslot (X : XP) (μ : XM) (t i j : Nat) (s : Nat ⊕ (Nat → XQ)) : Value := match s with
  | .inl 1 => .long (rL μ t i j)
  | .inl _ => .int (rI μ t i j)
  | .inr f => .ref (xad X (f i))
def xfs (X : XP) (μ : XM) (t i : Nat) : List Value := (xlay t).mapIdx (fun j s => xslot X μ t i j s)
def xae (X : XP) (μ : XM) (t i j : Nat) : va_E := match xarr t j with
  | (1, n) => .inl (xcy X 1, n, .inr (.inl (aL μ t i j)))
  | (4, n) => .inl (xcy X 4, n, .inr (.inr (.inr (.inr (fun k => some (xad X (xrow 4 k)))))))
  | (5, n) => .inl (xcy X 5, n, .inr (.inr (.inr (.inr (fun k => some (xad X (xrow 5 k)))))))
  | (kd, n) => .inl (xcy X kd, n, .inl (aI μ t i j))
def xe (X : XP) (μ : XM) (q : XQ) : va_E := match q with
  | (t, i, 0) => .inr (t, xfs X μ t i)
  | (t, i, j + 1) => xae X μ t i j
def xws (X : XP) (μ : XM) : va_W := xdom.map (fun q => (xad X q, xe X μ q))
def xtys (X : XP) : List (ClassId × FieldType) := [(xcy X 0, .int), (xcy X 1, .long), (xcy X 2, .char), (xcy X 3, .boolean), (xcy X 4, .object xR8), (xcy X 5, .object xR5)]
theorem xdom_nodup : xdom.Nodup := by decide +kernel
theorem xpos {q : XQ} (h : q ∈ xdom) : ∃ p : Nat, xdom[p]? = some q := List.mem_iff_getElem?.mp h
theorem xws_get (X : XP) (μ : XM) {p : Nat} {q : XQ} (h : xdom[p]? = some q) : (xws X μ)[p]? = some (xad X q, xe X μ q) := by
  simp [xws, List.getElem?_map, h]
theorem xws_set (X : XP) (μ μ' : XM) {p : Nat} {q : XQ} (hp : xdom[p]? = some q) {e : va_E} (he : xe X μ' q = e) (h1 : ∀ q' : XQ, q' ≠ q → xe X μ' q' = xe X μ q') : (xws X μ).set p (xad X q, e) = xws X μ' := by
  subst he
  apply List.ext_getElem?
  intro k
  by_cases hk : k = p
  · subst hk
    have hl : k < (xws X μ).length := (List.getElem?_eq_some_iff.mp (xws_get X μ hp)).1
    rw [List.getElem?_set_self hl, xws_get X μ' hp]
  · rw [List.getElem?_set_ne (Ne.symm hk)]
    cases hq : xdom[k]? with
    | none => simp [xws, List.getElem?_map, hq]
    | some q' =>
      rw [xws_get X μ hq, xws_get X μ' hq]
      have hne : q' ≠ q := by
        intro h
        subst h
        obtain ⟨a1, a2⟩ := List.getElem?_eq_some_iff.mp hq
        obtain ⟨b1, b2⟩ := List.getElem?_eq_some_iff.mp hp
        exact hk ((List.getElem_inj xdom_nodup).mp (a2.trans b2.symm))
      rw [h1 q' hne]
-- readers behind writers
theorem xset_s (μ : XM) (t i : Nat) (o : XO) : xset μ t i o t i = o := by simp [xset]
theorem xset_n (μ : XM) (t i : Nat) (o : XO) {t' i' : Nat} (h : ¬ (t' = t ∧ i' = i)) : xset μ t i o t' i' = μ t' i' := by simp [xset, h]
theorem rI_sI (μ : XM) (t i j : Nat) (x : Int32) (t' i' j' : Nat) : rI (sI μ t i j x) t' i' j' = if t' = t ∧ i' = i ∧ j' = j then x else rI μ t' i' j' := by
  by_cases h : t' = t ∧ i' = i
  · obtain ⟨rfl, rfl⟩ := h
    by_cases hj : j' = j <;> simp [rI, sI, xset, va_up, hj]
  · have h2 : ¬ (t' = t ∧ i' = i ∧ j' = j) := fun q => h ⟨q.1, q.2.1⟩
    simp [rI, sI, xset, h, h2]
theorem rL_sL (μ : XM) (t i j : Nat) (x : Int64) (t' i' j' : Nat) : rL (sL μ t i j x) t' i' j' = if t' = t ∧ i' = i ∧ j' = j then x else rL μ t' i' j' := by
  by_cases h : t' = t ∧ i' = i
  · obtain ⟨rfl, rfl⟩ := h
    by_cases hj : j' = j <;> simp [rL, sL, xset, va_up, hj]
  · have h2 : ¬ (t' = t ∧ i' = i ∧ j' = j) := fun q => h ⟨q.1, q.2.1⟩
    simp [rL, sL, xset, h, h2]
theorem aI_wI (μ : XM) (t i j : Nat) (f : Nat → Int32) (t' i' j' : Nat) : aI (wI μ t i j f) t' i' j' = if t' = t ∧ i' = i ∧ j' = j then f else aI μ t' i' j' := by
  by_cases h : t' = t ∧ i' = i
  · obtain ⟨rfl, rfl⟩ := h
    by_cases hj : j' = j <;> simp [aI, wI, xset, va_up, hj]
  · have h2 : ¬ (t' = t ∧ i' = i ∧ j' = j) := fun q => h ⟨q.1, q.2.1⟩
    simp [aI, wI, xset, h, h2]
theorem aL_wL (μ : XM) (t i j : Nat) (f : Nat → Int64) (t' i' j' : Nat) : aL (wL μ t i j f) t' i' j' = if t' = t ∧ i' = i ∧ j' = j then f else aL μ t' i' j' := by
  by_cases h : t' = t ∧ i' = i
  · obtain ⟨rfl, rfl⟩ := h
    by_cases hj : j' = j <;> simp [aL, wL, xset, va_up, hj]
  · have h2 : ¬ (t' = t ∧ i' = i ∧ j' = j) := fun q => h ⟨q.1, q.2.1⟩
    simp [aL, wL, xset, h, h2]
theorem rI_sL (μ : XM) (t i j : Nat) (x : Int64) (t' i' j' : Nat) : rI (sL μ t i j x) t' i' j' = rI μ t' i' j' := by
  by_cases h : t' = t ∧ i' = i <;> simp [rI, sL, xset, h]
theorem rI_wI (μ : XM) (t i j : Nat) (f : Nat → Int32) (t' i' j' : Nat) : rI (wI μ t i j f) t' i' j' = rI μ t' i' j' := by
  by_cases h : t' = t ∧ i' = i <;> simp [rI, wI, xset, h]
theorem rI_wL (μ : XM) (t i j : Nat) (f : Nat → Int64) (t' i' j' : Nat) : rI (wL μ t i j f) t' i' j' = rI μ t' i' j' := by
  by_cases h : t' = t ∧ i' = i <;> simp [rI, wL, xset, h]
theorem rL_sI (μ : XM) (t i j : Nat) (x : Int32) (t' i' j' : Nat) : rL (sI μ t i j x) t' i' j' = rL μ t' i' j' := by
  by_cases h : t' = t ∧ i' = i <;> simp [rL, sI, xset, h]
theorem rL_wI (μ : XM) (t i j : Nat) (f : Nat → Int32) (t' i' j' : Nat) : rL (wI μ t i j f) t' i' j' = rL μ t' i' j' := by
  by_cases h : t' = t ∧ i' = i <;> simp [rL, wI, xset, h]
theorem rL_wL (μ : XM) (t i j : Nat) (f : Nat → Int64) (t' i' j' : Nat) : rL (wL μ t i j f) t' i' j' = rL μ t' i' j' := by
  by_cases h : t' = t ∧ i' = i <;> simp [rL, wL, xset, h]
theorem aI_sI (μ : XM) (t i j : Nat) (x : Int32) (t' i' j' : Nat) : aI (sI μ t i j x) t' i' j' = aI μ t' i' j' := by
  by_cases h : t' = t ∧ i' = i <;> simp [aI, sI, xset, h]
theorem aI_sL (μ : XM) (t i j : Nat) (x : Int64) (t' i' j' : Nat) : aI (sL μ t i j x) t' i' j' = aI μ t' i' j' := by
  by_cases h : t' = t ∧ i' = i <;> simp [aI, sL, xset, h]
theorem aI_wL (μ : XM) (t i j : Nat) (f : Nat → Int64) (t' i' j' : Nat) : aI (wL μ t i j f) t' i' j' = aI μ t' i' j' := by
  by_cases h : t' = t ∧ i' = i <;> simp [aI, wL, xset, h]
theorem aL_sI (μ : XM) (t i j : Nat) (x : Int32) (t' i' j' : Nat) : aL (sI μ t i j x) t' i' j' = aL μ t' i' j' := by
  by_cases h : t' = t ∧ i' = i <;> simp [aL, sI, xset, h]
theorem aL_sL (μ : XM) (t i j : Nat) (x : Int64) (t' i' j' : Nat) : aL (sL μ t i j x) t' i' j' = aL μ t' i' j' := by
  by_cases h : t' = t ∧ i' = i <;> simp [aL, sL, xset, h]
theorem aL_wI (μ : XM) (t i j : Nat) (f : Nat → Int32) (t' i' j' : Nat) : aL (wI μ t i j f) t' i' j' = aL μ t' i' j' := by
  by_cases h : t' = t ∧ i' = i <;> simp [aL, wI, xset, h]
-- a cell behind a writer
theorem xfs_get (X : XP) (μ : XM) (t i j : Nat) : (xfs X μ t i)[j]? = ((xlay t)[j]?).map (fun s => xslot X μ t i j s) := by
  simp [xfs, List.getElem?_mapIdx]
theorem xfs_congr (X : XP) (μ μ' : XM) {t i : Nat} (h1 : ∀ j, rI μ' t i j = rI μ t i j) (h2 : ∀ j, rL μ' t i j = rL μ t i j) : xfs X μ' t i = xfs X μ t i := by
  apply List.ext_getElem?
  intro j
  rw [xfs_get, xfs_get]
  congr 1
  funext s
  simp only [xslot, h1, h2]
theorem xe_sI (X : XP) (μ : XM) (t i j : Nat) (x : Int32) (q : XQ) (h : q ≠ (t, i, 0)) : xe X (sI μ t i j x) q = xe X μ q := by
  obtain ⟨t', i', k⟩ := q
  cases k with
  | zero =>
    have h2 : ¬ (t' = t ∧ i' = i) := fun ⟨a, b⟩ => h (by rw [a, b])
    show Sum.inr (t', xfs X _ t' i') = Sum.inr (t', xfs X _ t' i')
    rw [xfs_congr X μ _ (fun j' => by rw [rI_sI, if_neg (fun z => h2 ⟨z.1, z.2.1⟩)]) (fun j' => by rw [rL_sI])]
  | succ k => simp only [xe, xae, aI_sI, aL_sI]
theorem xe_sL (X : XP) (μ : XM) (t i j : Nat) (x : Int64) (q : XQ) (h : q ≠ (t, i, 0)) : xe X (sL μ t i j x) q = xe X μ q := by
  obtain ⟨t', i', k⟩ := q
  cases k with
  | zero =>
    have h2 : ¬ (t' = t ∧ i' = i) := fun ⟨a, b⟩ => h (by rw [a, b])
    show Sum.inr (t', xfs X _ t' i') = Sum.inr (t', xfs X _ t' i')
    rw [xfs_congr X μ _ (fun j' => by rw [rI_sL]) (fun j' => by rw [rL_sL, if_neg (fun z => h2 ⟨z.1, z.2.1⟩)])]
  | succ k => simp only [xe, xae, aI_sL, aL_sL]
theorem xe_wI (X : XP) (μ : XM) (t i j : Nat) (f : Nat → Int32) (q : XQ) (h : q ≠ (t, i, j + 1)) : xe X (wI μ t i j f) q = xe X μ q := by
  obtain ⟨t', i', k⟩ := q
  cases k with
  | zero =>
    show Sum.inr (t', xfs X _ t' i') = Sum.inr (t', xfs X _ t' i')
    rw [xfs_congr X μ _ (fun j' => by rw [rI_wI]) (fun j' => by rw [rL_wI])]
  | succ k =>
    have h2 : ¬ (t' = t ∧ i' = i ∧ k = j) := fun ⟨a, b, c⟩ => h (by rw [a, b, c])
    simp only [xe, xae, aI_wI, aL_wI, if_neg h2]
theorem xe_wL (X : XP) (μ : XM) (t i j : Nat) (f : Nat → Int64) (q : XQ) (h : q ≠ (t, i, j + 1)) : xe X (wL μ t i j f) q = xe X μ q := by
  obtain ⟨t', i', k⟩ := q
  cases k with
  | zero =>
    show Sum.inr (t', xfs X _ t' i') = Sum.inr (t', xfs X _ t' i')
    rw [xfs_congr X μ _ (fun j' => by rw [rI_wL]) (fun j' => by rw [rL_wL])]
  | succ k =>
    have h2 : ¬ (t' = t ∧ i' = i ∧ k = j) := fun ⟨a, b, c⟩ => h (by rw [a, b, c])
    simp only [xe, xae, aI_wL, aL_wL, if_neg h2]
theorem xfs_sI (X : XP) (μ : XM) (t i j : Nat) (x : Int32) {k : Nat} (hk : (xlay t)[j]? = some (.inl k)) (h1 : k ≠ 1) : xfs X (sI μ t i j x) t i = (xfs X μ t i).set j (.int x) := by
  apply List.ext_getElem?
  intro j'
  by_cases hj : j' = j
  · subst hj
    have hl : j' < (xfs X μ t i).length := by
      have := (List.getElem?_eq_some_iff.mp hk).1
      simpa [xfs] using this
    rw [List.getElem?_set_self hl, xfs_get, hk]
    simp only [Option.map_some, xslot]
    rcases k with _ | _ | k
    · simp [rI_sI]
    · exact absurd rfl h1
    · simp [rI_sI]
  · rw [List.getElem?_set_ne (Ne.symm hj), xfs_get, xfs_get]
    congr 1
    funext s
    simp [xslot, rI_sI, rL_sI, hj]
theorem xfs_sL (X : XP) (μ : XM) (t i j : Nat) (x : Int64) (hk : (xlay t)[j]? = some (.inl 1)) : xfs X (sL μ t i j x) t i = (xfs X μ t i).set j (.long x) := by
  apply List.ext_getElem?
  intro j'
  by_cases hj : j' = j
  · subst hj
    have hl : j' < (xfs X μ t i).length := by
      have := (List.getElem?_eq_some_iff.mp hk).1
      simpa [xfs] using this
    rw [List.getElem?_set_self hl, xfs_get, hk]
    simp [xslot, rL_sL]
  · rw [List.getElem?_set_ne (Ne.symm hj), xfs_get, xfs_get]
    congr 1
    funext s
    simp [xslot, rI_sL, rL_sL, hj]
end
section
/-! SOUNDNESS: what the interpreter answers, the machine answers -/
/-- the String constants of the class: its own name, the pool index, the text -/
def xstrT : List (String × Nat × String) := [("SilenceBall$Tape", 67, "guest belt man holes water rises at chin breath weighs bears reach plain waver heavy shabby minute cast ask stop not and or gaps depth talk out "), ("SilenceBall$Tape", 59, "()<=+-*;")]
def xcn (t : Nat) : String := if t = 15 then "java/lang/String" else ((xcl[t]?).map (fun q => q.1)).getD ""
def xrecv (X : XP) (U : State) (H : Heap) (q : XQ) : Prop := ∃ cell : Cell, H[xad X q]? = some cell ∧ cell.vm.isStatics = false ∧ U.vm.findClass (xcn q.1) = some cell.cls
def xscr (X : XP) (μ : XM) : Prop := aI μ 13 0 0 = xxs X ∧ rI μ 13 0 0 = nI (xLn X)
def XOK (X : XP) : Prop :=
  (∀ μ, va_D (xA X) (xws X μ)) ∧
  (∀ (u U : State) (H : Heap), u.vm.Alike U.vm → xC X u H → xC X U H) ∧
  (∀ (U : State) (H H1 : Heap), H.size ≤ H1.size → (∀ q : Nat, q < H.size → ¬ xA X q → H1[q]? = H[q]?) → xC X U H → xC X U H1) ∧
  (∀ (U : State) (H : Heap), xC X U H → va_X (xad X (13, 0, 1)) (xLn X) (xxs X) U H ∧ ¬ xA X (xad X (13, 0, 1)) ∧ xad X (13, 0, 1) < H.size) ∧
  (∀ (U : State) (H : Heap) (k : Nat), k < 2 → xC X U H → xrecv X U H (15, k, 0)) ∧
  (∀ (U : State) (H : Heap) (k : Nat) (q : String × Nat × String), xC X U H → xstrT[k]? = some q → vk_R q.1 q.2.1 q.2.2 (xad X (15, k, 0)) U) ∧ xLn X < 2 ^ 31
/-- the world of a memory, at a state -/
def XW (X : XP) (μ : XM) (U : State) : Prop := va_P (xD X) xcl (xws X μ) U.heap ∧ va_K (xD X) xcl (xtys X) U ∧ xC X U U.heap ∧ xscr X μ
/-- a value leads to a cell of the world -/
def xok (v : XV) : Prop := match v with
  | .inr (.inr (some q)) => q ∈ xdom ∨ q = (13, 0, 1) ∨ (q.1 = 15 ∧ q.2.1 < 2 ∧ q.2.2 = 0)
  | _ => True
/-- a method's end -/
def xQ (X : XP) (r : Option XV) (μ : XM) : Array Value → State → Outcome → State → Prop := match r with
  | none => va_Qv (S := Unit) (fun _ => True) (fun _ t => XW X μ t) (xA X)
  | some (.inl x) => va_Qi (S := Unit) (fun y _ => y = x) (fun _ t => XW X μ t) (xA X)
  | some (.inr (.inl x)) => va_Ql (S := Unit) (fun y _ => y = x) (fun _ t => XW X μ t) (xA X)
  | some (.inr (.inr _)) => fun _ _ _ _ => True
/-- a method's contract: it does what the function F says -/
def Ctr (X : XP) (l : Launch) (y : MethodName) (bytes : ByteArray) (maxL : Nat) (ret : Option FieldType) (rm : Room) (mc ms : Nat) (F : XF) : Prop :=
  ∀ (av : List XV) (μ : XM) (r : Option XV) (μ' : XM), (∀ v ∈ av, xok v) → F av μ = some (r, μ') →
    Met l y (Cond.code y bytes maxL ret :: xG) rm (va_Pc (av.map (xc X)) (XW X μ)) (xQ X r μ') mc ms (xA X)
theorem xW_blind (X : XP) (hX : XOK X) (μ : XM) (av : List Value) : FrameBlind (va_Pc av (XW X μ)) := by
  intro a U g mk h
  obtain ⟨h0, h1, h2, h3, h4⟩ := h
  exact ⟨h0, h1, va_K.moved (u := U) (U := U.calling g mk a) (Vm.Alike.refl U.vm) h2, hX.2.1 U (U.calling g mk a) _ (Vm.Alike.refl U.vm) h3, h4⟩
/-- what stands all along a body -/
def XI (X : XP) (s : State) (μ : XM) (H : Heap) (locs : List Loc) : Prop := va_P (xD X) xcl (xws X μ) H ∧ va_S (xA X) s.heap H locs ∧ xscr X μ
def XCt (X : XP) (p : Program) (R : Room) (s : State) (m : MethodId) (args : Array Value) (c : Code) (cc : ByteArray) (own : String) (nL : Nat) : Prop :=
  p.tables.exec = Jvm.exec ∧ c.code = cc ∧ c.maxLocals = nL ∧ s.vm.findClass own = some m.cls ∧ (∀ w ∈ xG, w.before args s = true) ∧ va_K (xD X) xcl (xtys X) s ∧ xC X s s.heap ∧ XOK X ∧ 1 ≤ R.frames ∧ 100 ≤ R.locals
-- locals
def xlv (X : XP) : Nat → XL → List (Nat × Value)
  | _, [] => []
  | i, none :: l => xlv X (i + 1) l
  | i, some v :: l => (i, xc X v) :: xlv X (i + 1) l
theorem xlv_mem (X : XP) : ∀ (L : XL) (k i : Nat) (w : Value), (k + i, w) ∈ xlv X k L ↔ ∃ v, L[i]? = some (some v) ∧ w = xc X v := by
  intro L
  induction L with
  | nil => intro k i w; simp [xlv]
  | cons a L ih =>
    intro k i w
    cases i with
    | zero =>
      have hno : ∀ (l : XL) (n : Nat) (w : Value) (j : Nat), (j, w) ∈ xlv X n l → n ≤ j := by
        intro l
        induction l with
        | nil => intro n w j h; simp [xlv] at h
        | cons b l ih2 =>
          intro n w j h
          cases b with
          | none => have := ih2 (n + 1) w j h; omega
          | some v =>
            simp only [xlv, List.mem_cons, Prod.mk.injEq] at h
            rcases h with ⟨h, -⟩ | h
            · omega
            · have := ih2 (n + 1) w j h; omega
      cases a with
      | none =>
        simp only [xlv, List.getElem?_cons_zero, Option.some.injEq]
        constructor
        · intro h; have := hno _ _ _ _ h; omega
        · rintro ⟨v, h, -⟩; cases h
      | some v =>
        simp only [xlv, List.mem_cons, Prod.mk.injEq, List.getElem?_cons_zero, Option.some.injEq]
        constructor
        · rintro (⟨-, h⟩ | h)
          · exact ⟨v, rfl, h⟩
          · have := hno _ _ _ _ h; omega
        · rintro ⟨v', rfl, h⟩; exact Or.inl ⟨by omega, h⟩
    | succ i =>
      have e : k + (i + 1) = (k + 1) + i := by omega
      rw [e, List.getElem?_cons_succ]
      cases a with
      | none => exact ih (k + 1) i w
      | some v =>
        simp only [xlv, List.mem_cons, Prod.mk.injEq]
        rw [← ih (k + 1) i w]
        constructor
        · rintro (⟨h, -⟩ | h)
          · omega
          · exact h
        · exact Or.inr
theorem xlv_le (X : XP) {L : XL} {k j : Nat} {w : Value} (h : (j, w) ∈ xlv X k L) : k ≤ j := by
  induction L generalizing k with
  | nil => simp [xlv] at h
  | cons b l ih =>
    cases b with
    | none => have := ih h; omega
    | some v =>
      simp only [xlv, List.mem_cons, Prod.mk.injEq] at h
      rcases h with ⟨h, -⟩ | h
      · omega
      · have := ih h; omega
theorem xlv_iff (X : XP) (L : XL) (i : Nat) (w : Value) : (i, w) ∈ xlv X 0 L ↔ ∃ v, L[i]? = some (some v) ∧ w = xc X v := by
  have := xlv_mem X L 0 i w
  simpa using this
/-- the locals hold what the list says, and lead into the world -/
def xloc (X : XP) (ls : Array Slot) (nL : Nat) (L : XL) : Prop := lv_has ls nL (xlv X 0 L) ∧ L.length = nL ∧ ∀ v, some v ∈ L → xok v
theorem lv_mono {ls : Array Slot} {nL : Nat} {l l' : List (Nat × Value)} (h : lv_has ls nL l) (hs : ∀ q ∈ l', q ∈ l) : lv_has ls nL l' := ⟨h.1, h.2.1, fun q hq => h.2.2 q (hs q hq)⟩
theorem xloc_get {X : XP} {ls : Array Slot} {nL i : Nat} {L : XL} {v : XV} (h : xloc X ls nL L) (hi : L[i]? = some (some v)) : ls[i]? = some (.val (xc X v)) := h.1.2.2 (i, xc X v) ((xlv_iff X L i _).mpr ⟨v, hi, rfl⟩)
theorem xloc_ok {X : XP} {ls : Array Slot} {nL i : Nat} {L : XL} {v : XV} (h : xloc X ls nL L) (hi : L[i]? = some (some v)) : xok v := h.2.2 v (List.mem_of_getElem? hi)
theorem xc_cat (X : XP) (v : XV) : (xc X v).category = xcat v := by
  rcases v with x | x | _ | q <;> rfl
theorem xmask_len : ∀ (m : Nat) (L : XL), (xmask m L).length = L.length := by
  intro m L
  induction L generalizing m with
  | nil => rfl
  | cons a L ih => simp [xmask, ih]
theorem xmask_get : ∀ (m : Nat) (L : XL) (i : Nat) (v : XV), (xmask m L)[i]? = some (some v) → L[i]? = some (some v) := by
  intro m L
  induction L generalizing m with
  | nil => intro i v h; simp [xmask] at h
  | cons a L ih =>
    intro i v h
    cases i with
    | zero =>
      simp only [xmask, List.getElem?_cons_zero, Option.some.injEq] at h ⊢
      cases hb : Nat.beq (m % 2) 1 <;> rw [hb] at h
      · cases h
      · exact h
    | succ i => exact ih _ i v (by simpa [xmask] using h)
theorem xloc_mask {X : XP} {ls : Array Slot} {nL : Nat} {L : XL} (m : Nat) (h : xloc X ls nL L) : xloc X ls nL (xmask m L) := by
  refine ⟨lv_mono h.1 ?_, by rw [xmask_len]; exact h.2.1, ?_⟩
  · rintro ⟨i, w⟩ hq
    obtain ⟨v, h1, h2⟩ := (xlv_iff X _ i w).mp hq
    exact (xlv_iff X L i w).mpr ⟨v, xmask_get m L i v h1, h2⟩
  · intro v hv
    obtain ⟨i, hi⟩ := List.mem_iff_getElem?.mp hv
    exact xloc_ok h (xmask_get m L i v hi)
theorem xdl_len (b a : Nat) (L : XL) : (xdl b a L).length = L.length := by
  cases b <;> simp [xdl]
theorem xdl_get {b a : Nat} {L : XL} {i : Nat} {v : XV} (h : (xdl b a L)[i]? = some (some v)) : L[i]? = some (some v) ∧ (b ≠ 0 → i ≠ a - 1) := by
  cases b with
  | zero => exact ⟨h, fun z => absurd rfl z⟩
  | succ b =>
    replace h : (L.set (a - 1) none)[i]? = some (some v) := h
    by_cases hi : i = a - 1
    · subst hi
      have : a - 1 < L.length := by
        have := (List.getElem?_eq_some_iff.mp h).1
        simpa using this
      rw [List.getElem?_set_self this] at h
      cases h
    · rw [List.getElem?_set_ne (Ne.symm hi)] at h
      exact ⟨h, fun _ => hi⟩
/-- what is left of the locals when one is stored: none of the stored place, and no long just below it -/
theorem xst_keep {b a : Nat} {L : XL} {i : Nat} {v : XV} (hk : xsk b a L = true) (ha : i ≠ a) (h : (xdl b a L)[i]? = some (some v)) : L[i]? = some (some v) ∧ ¬ (i + 1 = a ∧ xcat v = 2) := by
  obtain ⟨h1, h2⟩ := xdl_get h
  refine ⟨h1, fun ⟨h3, h4⟩ => ?_⟩
  have e : a - 1 = i := by omega
  cases b with
  | zero =>
    have hl : xlong L[a - 1]? = true := by
      rw [e, h1]
      rcases v with x | x | _ | q <;> simp_all [xlong, xcat]
    simp [xsk, hl] at hk
  | succ b => exact h2 (by omega) e.symm
theorem xloc_st1 {X : XP} {ls ls' : Array Slot} {nL b a : Nat} {L : XL} {v : XV} (hk : xsk b a L = true) (h : xloc X ls nL L) (ha : a < nL) (hv : xok v)
    (h' : lv_has ls' nL ((a, xc X v) :: (xlv X 0 L).filter (fun q => !(q.1 == a) && !(q.1 + 1 == a && q.2.category == 2)))) : xloc X ls' nL ((xdl b a L).set a (some v)) := by
  have hlen : a < (xdl b a L).length := by rw [xdl_len, h.2.1]; exact ha
  refine ⟨lv_mono h' ?_, by simp [xdl_len, h.2.1], ?_⟩
  · rintro ⟨i, w⟩ hq
    obtain ⟨v', h1, rfl⟩ := (xlv_iff X _ i w).mp hq
    by_cases hi : i = a
    · subst hi
      rw [List.getElem?_set_self hlen] at h1
      cases h1
      exact List.mem_cons_self
    · rw [List.getElem?_set_ne (Ne.symm hi)] at h1
      obtain ⟨k1, k2⟩ := xst_keep hk hi h1
      refine List.mem_cons_of_mem _ (List.mem_filter.mpr ⟨(xlv_iff X L i _).mpr ⟨v', k1, rfl⟩, ?_⟩)
      simp only [xc_cat]
      simp [hi]
      omega
  · intro w hw
    obtain ⟨i, hi⟩ := List.mem_iff_getElem?.mp hw
    by_cases hia : i = a
    · subst hia
      rw [List.getElem?_set_self hlen] at hi
      cases hi
      exact hv
    · rw [List.getElem?_set_ne (Ne.symm hia)] at hi
      exact xloc_ok h (xdl_get hi).1
theorem xloc_st2 {X : XP} {ls ls' : Array Slot} {nL b a : Nat} {L : XL} {v : XV} (hk : xsk b a L = true) (h : xloc X ls nL L) (ha : a + 1 < nL) (hv : xok v)
    (h' : lv_has ls' nL ((a, xc X v) :: (xlv X 0 L).filter (fun q => !(q.1 == a) && (!(q.1 == a + 1) && !(q.1 + 1 == a && q.2.category == 2))))) : xloc X ls' nL (((xdl b a L).set (a + 1) none).set a (some v)) := by
  have hlen : a < ((xdl b a L).set (a + 1) none).length := by simp only [List.length_set, xdl_len, h.2.1]; omega
  have key : ∀ (i : Nat) (v' : XV), i ≠ a → (((xdl b a L).set (a + 1) none).set a (some v))[i]? = some (some v') → i ≠ a + 1 ∧ (xdl b a L)[i]? = some (some v') := by
    intro i v' hi h1
    rw [List.getElem?_set_ne (Ne.symm hi)] at h1
    by_cases hi2 : i = a + 1
    · subst hi2
      rw [List.getElem?_set_self (by rw [xdl_len, h.2.1]; exact ha)] at h1
      cases h1
    · rw [List.getElem?_set_ne (Ne.symm hi2)] at h1
      exact ⟨hi2, h1⟩
  refine ⟨lv_mono h' ?_, by simp [xdl_len, h.2.1], ?_⟩
  · rintro ⟨i, w⟩ hq
    obtain ⟨v', h1, rfl⟩ := (xlv_iff X _ i w).mp hq
    by_cases hi : i = a
    · subst hi
      rw [List.getElem?_set_self hlen] at h1
      cases h1
      exact List.mem_cons_self
    · obtain ⟨hi2, h1⟩ := key i v' hi h1
      obtain ⟨k1, k2⟩ := xst_keep hk hi h1
      refine List.mem_cons_of_mem _ (List.mem_filter.mpr ⟨(xlv_iff X L i _).mpr ⟨v', k1, rfl⟩, ?_⟩)
      simp only [xc_cat]
      simp [hi, hi2]
      omega
  · intro w hw
    obtain ⟨i, hi⟩ := List.mem_iff_getElem?.mp hw
    by_cases hia : i = a
    · subst hia
      rw [List.getElem?_set_self hlen] at hi
      cases hi
      exact hv
    · exact xloc_ok h (xdl_get (key i w hia hi).2).1

-- classes
def xsty (k : Nat) : FieldType := if k = 1 then .long else if k = 3 then .boolean else .int
def xcf (a : Nat) (C : String) (T : u_T) (N : Nat) : Prop := (xlay a).length = N ∧ (∀ w ∈ u_ws C T N, w ∈ xG) ∧ (∃ ty0 : Nat → FieldType, ∀ k, k < N → parseFieldDescriptor (T k).2.2.1 = some (ty0 k)) ∧ (∀ x, x < N → ∀ y, y < N → x ≠ y → (T x).2.1 ≠ (T y).2.1) ∧ (∀ b, b < N → (match (xlay a)[b]? with | some (.inl k) => (T b).2.2.2 = false ∧ parseFieldDescriptor (T b).2.2.1 = some (xsty k) | _ => True))
theorem xcf0 : xcf 0 xR0 xT0 3 := ⟨rfl, xI0, ⟨xY0, xP0⟩, xN0, by
  intro b hb
  match b, hb with
  | 0, _ => first | exact trivial | exact ⟨rfl, by decide +kernel⟩
  | 1, _ => first | exact trivial | exact ⟨rfl, by decide +kernel⟩
  | 2, _ => first | exact trivial | exact ⟨rfl, by decide +kernel⟩
  | b + 3, hb => exact absurd hb (by omega)⟩
theorem xcf1 : xcf 1 xR1 xT1 5 := ⟨rfl, xI1, ⟨xY1, xP1⟩, xN1, by
  intro b hb
  match b, hb with
  | 0, _ => first | exact trivial | exact ⟨rfl, by decide +kernel⟩
  | 1, _ => first | exact trivial | exact ⟨rfl, by decide +kernel⟩
  | 2, _ => first | exact trivial | exact ⟨rfl, by decide +kernel⟩
  | 3, _ => first | exact trivial | exact ⟨rfl, by decide +kernel⟩
  | 4, _ => first | exact trivial | exact ⟨rfl, by decide +kernel⟩
  | b + 5, hb => exact absurd hb (by omega)⟩
theorem xcf2 : xcf 2 xR2 xT2 17 := ⟨rfl, xI2, ⟨xY2, xP2⟩, xN2, by
  intro b hb
  match b, hb with
  | 0, _ => first | exact trivial | exact ⟨rfl, by decide +kernel⟩
  | 1, _ => first | exact trivial | exact ⟨rfl, by decide +kernel⟩
  | 2, _ => first | exact trivial | exact ⟨rfl, by decide +kernel⟩
  | 3, _ => first | exact trivial | exact ⟨rfl, by decide +kernel⟩
  | 4, _ => first | exact trivial | exact ⟨rfl, by decide +kernel⟩
  | 5, _ => first | exact trivial | exact ⟨rfl, by decide +kernel⟩
  | 6, _ => first | exact trivial | exact ⟨rfl, by decide +kernel⟩
  | 7, _ => first | exact trivial | exact ⟨rfl, by decide +kernel⟩
  | 8, _ => first | exact trivial | exact ⟨rfl, by decide +kernel⟩
  | 9, _ => first | exact trivial | exact ⟨rfl, by decide +kernel⟩
  | 10, _ => first | exact trivial | exact ⟨rfl, by decide +kernel⟩
  | 11, _ => first | exact trivial | exact ⟨rfl, by decide +kernel⟩
  | 12, _ => first | exact trivial | exact ⟨rfl, by decide +kernel⟩
  | 13, _ => first | exact trivial | exact ⟨rfl, by decide +kernel⟩
  | 14, _ => first | exact trivial | exact ⟨rfl, by decide +kernel⟩
  | 15, _ => first | exact trivial | exact ⟨rfl, by decide +kernel⟩
  | 16, _ => first | exact trivial | exact ⟨rfl, by decide +kernel⟩
  | b + 17, hb => exact absurd hb (by omega)⟩
theorem xcf3 : xcf 3 xR3 xT3 1 := ⟨rfl, xI3, ⟨xY3, xP3⟩, xN3, by
  intro b hb
  match b, hb with
  | 0, _ => first | exact trivial | exact ⟨rfl, by decide +kernel⟩
  | b + 1, hb => exact absurd hb (by omega)⟩
theorem xcf4 : xcf 4 xR4 xT4 4 := ⟨rfl, xI4, ⟨xY4, xP4⟩, xN4, by
  intro b hb
  match b, hb with
  | 0, _ => first | exact trivial | exact ⟨rfl, by decide +kernel⟩
  | 1, _ => first | exact trivial | exact ⟨rfl, by decide +kernel⟩
  | 2, _ => first | exact trivial | exact ⟨rfl, by decide +kernel⟩
  | 3, _ => first | exact trivial | exact ⟨rfl, by decide +kernel⟩
  | b + 4, hb => exact absurd hb (by omega)⟩
theorem xcf5 : xcf 5 xR5 xT5 3 := ⟨rfl, xI5, ⟨xY5, xP5⟩, xN5, by
  intro b hb
  match b, hb with
  | 0, _ => first | exact trivial | exact ⟨rfl, by decide +kernel⟩
  | 1, _ => first | exact trivial | exact ⟨rfl, by decide +kernel⟩
  | 2, _ => first | exact trivial | exact ⟨rfl, by decide +kernel⟩
  | b + 3, hb => exact absurd hb (by omega)⟩
theorem xcf6 : xcf 6 xR6 xT6 7 := ⟨rfl, xI6, ⟨xY6, xP6⟩, xN6, by
  intro b hb
  match b, hb with
  | 0, _ => first | exact trivial | exact ⟨rfl, by decide +kernel⟩
  | 1, _ => first | exact trivial | exact ⟨rfl, by decide +kernel⟩
  | 2, _ => first | exact trivial | exact ⟨rfl, by decide +kernel⟩
  | 3, _ => first | exact trivial | exact ⟨rfl, by decide +kernel⟩
  | 4, _ => first | exact trivial | exact ⟨rfl, by decide +kernel⟩
  | 5, _ => first | exact trivial | exact ⟨rfl, by decide +kernel⟩
  | 6, _ => first | exact trivial | exact ⟨rfl, by decide +kernel⟩
  | b + 7, hb => exact absurd hb (by omega)⟩
theorem xcf7 : xcf 7 xR7 xT7 5 := ⟨rfl, xI7, ⟨xY7, xP7⟩, xN7, by
  intro b hb
  match b, hb with
  | 0, _ => first | exact trivial | exact ⟨rfl, by decide +kernel⟩
  | 1, _ => first | exact trivial | exact ⟨rfl, by decide +kernel⟩
  | 2, _ => first | exact trivial | exact ⟨rfl, by decide +kernel⟩
  | 3, _ => first | exact trivial | exact ⟨rfl, by decide +kernel⟩
  | 4, _ => first | exact trivial | exact ⟨rfl, by decide +kernel⟩
  | b + 5, hb => exact absurd hb (by omega)⟩
theorem xcf8 : xcf 8 xR8 xT8 9 := ⟨rfl, xI8, ⟨xY8, xP8⟩, xN8, by
  intro b hb
  match b, hb with
  | 0, _ => first | exact trivial | exact ⟨rfl, by decide +kernel⟩
  | 1, _ => first | exact trivial | exact ⟨rfl, by decide +kernel⟩
  | 2, _ => first | exact trivial | exact ⟨rfl, by decide +kernel⟩
  | 3, _ => first | exact trivial | exact ⟨rfl, by decide +kernel⟩
  | 4, _ => first | exact trivial | exact ⟨rfl, by decide +kernel⟩
  | 5, _ => first | exact trivial | exact ⟨rfl, by decide +kernel⟩
  | 6, _ => first | exact trivial | exact ⟨rfl, by decide +kernel⟩
  | 7, _ => first | exact trivial | exact ⟨rfl, by decide +kernel⟩
  | 8, _ => first | exact trivial | exact ⟨rfl, by decide +kernel⟩
  | b + 9, hb => exact absurd hb (by omega)⟩
theorem xcf9 : xcf 9 xR9 xT9 3 := ⟨rfl, xI9, ⟨xY9, xP9⟩, xN9, by
  intro b hb
  match b, hb with
  | 0, _ => first | exact trivial | exact ⟨rfl, by decide +kernel⟩
  | 1, _ => first | exact trivial | exact ⟨rfl, by decide +kernel⟩
  | 2, _ => first | exact trivial | exact ⟨rfl, by decide +kernel⟩
  | b + 3, hb => exact absurd hb (by omega)⟩
theorem xcf10 : xcf 10 xR10 xT10 8 := ⟨rfl, xI10, ⟨xY10, xP10⟩, xN10, by
  intro b hb
  match b, hb with
  | 0, _ => first | exact trivial | exact ⟨rfl, by decide +kernel⟩
  | 1, _ => first | exact trivial | exact ⟨rfl, by decide +kernel⟩
  | 2, _ => first | exact trivial | exact ⟨rfl, by decide +kernel⟩
  | 3, _ => first | exact trivial | exact ⟨rfl, by decide +kernel⟩
  | 4, _ => first | exact trivial | exact ⟨rfl, by decide +kernel⟩
  | 5, _ => first | exact trivial | exact ⟨rfl, by decide +kernel⟩
  | 6, _ => first | exact trivial | exact ⟨rfl, by decide +kernel⟩
  | 7, _ => first | exact trivial | exact ⟨rfl, by decide +kernel⟩
  | b + 8, hb => exact absurd hb (by omega)⟩
theorem xcf11 : xcf 11 xR11 xT11 12 := ⟨rfl, xI11, ⟨xY11, xP11⟩, xN11, by
  intro b hb
  match b, hb with
  | 0, _ => first | exact trivial | exact ⟨rfl, by decide +kernel⟩
  | 1, _ => first | exact trivial | exact ⟨rfl, by decide +kernel⟩
  | 2, _ => first | exact trivial | exact ⟨rfl, by decide +kernel⟩
  | 3, _ => first | exact trivial | exact ⟨rfl, by decide +kernel⟩
  | 4, _ => first | exact trivial | exact ⟨rfl, by decide +kernel⟩
  | 5, _ => first | exact trivial | exact ⟨rfl, by decide +kernel⟩
  | 6, _ => first | exact trivial | exact ⟨rfl, by decide +kernel⟩
  | 7, _ => first | exact trivial | exact ⟨rfl, by decide +kernel⟩
  | 8, _ => first | exact trivial | exact ⟨rfl, by decide +kernel⟩
  | 9, _ => first | exact trivial | exact ⟨rfl, by decide +kernel⟩
  | 10, _ => first | exact trivial | exact ⟨rfl, by decide +kernel⟩
  | 11, _ => first | exact trivial | exact ⟨rfl, by decide +kernel⟩
  | b + 12, hb => exact absurd hb (by omega)⟩
theorem xcf12 : xcf 12 xR12 xT12 34 := ⟨rfl, xI12, ⟨xY12, xP12⟩, xN12, by
  intro b hb
  match b, hb with
  | 0, _ => first | exact trivial | exact ⟨rfl, by decide +kernel⟩
  | 1, _ => first | exact trivial | exact ⟨rfl, by decide +kernel⟩
  | 2, _ => first | exact trivial | exact ⟨rfl, by decide +kernel⟩
  | 3, _ => first | exact trivial | exact ⟨rfl, by decide +kernel⟩
  | 4, _ => first | exact trivial | exact ⟨rfl, by decide +kernel⟩
  | 5, _ => first | exact trivial | exact ⟨rfl, by decide +kernel⟩
  | 6, _ => first | exact trivial | exact ⟨rfl, by decide +kernel⟩
  | 7, _ => first | exact trivial | exact ⟨rfl, by decide +kernel⟩
  | 8, _ => first | exact trivial | exact ⟨rfl, by decide +kernel⟩
  | 9, _ => first | exact trivial | exact ⟨rfl, by decide +kernel⟩
  | 10, _ => first | exact trivial | exact ⟨rfl, by decide +kernel⟩
  | 11, _ => first | exact trivial | exact ⟨rfl, by decide +kernel⟩
  | 12, _ => first | exact trivial | exact ⟨rfl, by decide +kernel⟩
  | 13, _ => first | exact trivial | exact ⟨rfl, by decide +kernel⟩
  | 14, _ => first | exact trivial | exact ⟨rfl, by decide +kernel⟩
  | 15, _ => first | exact trivial | exact ⟨rfl, by decide +kernel⟩
  | 16, _ => first | exact trivial | exact ⟨rfl, by decide +kernel⟩
  | 17, _ => first | exact trivial | exact ⟨rfl, by decide +kernel⟩
  | 18, _ => first | exact trivial | exact ⟨rfl, by decide +kernel⟩
  | 19, _ => first | exact trivial | exact ⟨rfl, by decide +kernel⟩
  | 20, _ => first | exact trivial | exact ⟨rfl, by decide +kernel⟩
  | 21, _ => first | exact trivial | exact ⟨rfl, by decide +kernel⟩
  | 22, _ => first | exact trivial | exact ⟨rfl, by decide +kernel⟩
  | 23, _ => first | exact trivial | exact ⟨rfl, by decide +kernel⟩
  | 24, _ => first | exact trivial | exact ⟨rfl, by decide +kernel⟩
  | 25, _ => first | exact trivial | exact ⟨rfl, by decide +kernel⟩
  | 26, _ => first | exact trivial | exact ⟨rfl, by decide +kernel⟩
  | 27, _ => first | exact trivial | exact ⟨rfl, by decide +kernel⟩
  | 28, _ => first | exact trivial | exact ⟨rfl, by decide +kernel⟩
  | 29, _ => first | exact trivial | exact ⟨rfl, by decide +kernel⟩
  | 30, _ => first | exact trivial | exact ⟨rfl, by decide +kernel⟩
  | 31, _ => first | exact trivial | exact ⟨rfl, by decide +kernel⟩
  | 32, _ => first | exact trivial | exact ⟨rfl, by decide +kernel⟩
  | 33, _ => first | exact trivial | exact ⟨rfl, by decide +kernel⟩
  | b + 34, hb => exact absurd hb (by omega)⟩
theorem xcfs {a : Nat} {C : String} {T : u_T} {N : Nat} (h : xcl[a]? = some (C, T, N)) : xcf a C T N := by
  match a, h with
  | 0, h => cases h; exact xcf0
  | 1, h => cases h; exact xcf1
  | 2, h => cases h; exact xcf2
  | 3, h => cases h; exact xcf3
  | 4, h => cases h; exact xcf4
  | 5, h => cases h; exact xcf5
  | 6, h => cases h; exact xcf6
  | 7, h => cases h; exact xcf7
  | 8, h => cases h; exact xcf8
  | 9, h => cases h; exact xcf9
  | 10, h => cases h; exact xcf10
  | 11, h => cases h; exact xcf11
  | 12, h => cases h; exact xcf12
  | a + 13, h => simp [xcl] at h
theorem xlay_lt {a b : Nat} {sl : Nat ⊕ (Nat → XQ)} (h : (xlay a)[b]? = some sl) : a < 13 := by
  by_cases ha : a < 13
  · exact ha
  · exfalso
    have : xlay a = [] := by
      unfold xlay
      rw [List.getD_eq_getElem?_getD, List.getElem?_eq_none (by simp; omega)]
      rfl
    rw [this] at h
    simp at h
theorem xcl_of {a : Nat} (h : a < 13) : ∃ C T N, xcl[a]? = some (C, T, N) := by
  have hl : a < xcl.length := h
  exact ⟨(xcl[a]).1, (xcl[a]).2.1, (xcl[a]).2.2, by rw [List.getElem?_eq_getElem hl]⟩
/-- a field's link: by the class's own name and the pool index: class and slot -/
def xfl (own : String) (q : Nat × Nat × Nat) : Prop := ∃ C T N, xcl[q.2.1]? = some (C, T, N) ∧ q.2.2 < N ∧ Cond.fieldLink own q.1 (T q.2.2).1 (T q.2.2).2.1 (T q.2.2).2.2.1 ∈ xG
-- the references lead into the world
theorem xlink_ok : xdom.all (fun q => match q with | (t, i, 0) => (xlay t).all (fun s => match s with | .inr f => decide (f i ∈ xdom) | _ => true) | (t, _, j + 1) => (match xarr t j with | (4, n) => (List.range n).all (fun k => decide (xrow 4 k ∈ xdom)) | (5, n) => (List.range n).all (fun k => decide (xrow 5 k ∈ xdom)) | _ => true)) = true := by decide +kernel
theorem xlink {t i b : Nat} {f : Nat → XQ} (hq : (t, i, 0) ∈ xdom) (hs : (xlay t)[b]? = some (.inr f)) : f i ∈ xdom := by
  have h := List.all_eq_true.mp xlink_ok _ hq
  have h2 := List.all_eq_true.mp h _ (List.mem_of_getElem? hs)
  exact of_decide_eq_true h2
theorem xlink4 {t i j n k kd : Nat} (hq : (t, i, j + 1) ∈ xdom) (hs : xarr t j = (kd, n)) (hkd : kd = 4 ∨ kd = 5) (hk : k < n) : xrow kd k ∈ xdom := by
  have h := List.all_eq_true.mp xlink_ok _ hq
  rcases hkd with rfl | rfl <;> (simp only [hs] at h; exact of_decide_eq_true (List.all_eq_true.mp h _ (List.mem_range.mpr hk)))
theorem xin_vp {x : Int32} {n : Nat} (h : xin x n = true) : vp_in x n := by
  simp only [xin, Bool.and_eq_true, Bool.not_eq_true', decide_eq_false_iff_not, decide_eq_true_eq] at h
  exact fun q => q.elim h.1 (fun z => by omega)
theorem xin_lt {x : Int32} {n : Nat} (h : xin x n = true) : x.toNatClampNeg < n := by
  simp only [xin, Bool.and_eq_true, Bool.not_eq_true', decide_eq_false_iff_not, decide_eq_true_eq] at h
  exact h.2
theorem xbl_or {x : Int32} (h : xbl x = true) : x = 0 ∨ x = 1 := by
  simpa [xbl] using h
end
section
/-! rows over the world -/
section
variable {p : Program} {l : Launch} {e : Env} {R : Room} {s : State} {m : MethodId} {args : Array Value} {below : List Frame} {meth : Method} {c : Code} {Z : State → Prop} {cc : ByteArray} {own : String} {X : XP} {nL : Nat} {μ : XM} {H : Heap} {locs : List Loc} {cells slots pc : Nat} {ls : Array Slot} {rest : List Value}
theorem xr_get (C : XCt X p R s m args c cc own nL) (hI : XI X s μ H locs) {a b i idx : Nat} (hf : xfl own (idx, a, b)) (hq : (a, i, 0) ∈ xdom) {sl : Nat ⊕ (Nat → XQ)} (hs : (xlay a)[b]? = some sl) (hdg : decode cc pc = .ok (.getfield idx, 3))
    (kk : W p l e R s m args below meth c H locs cells slots Z (F0 m (pc + 3) ls (xslot X μ a i b sl :: rest))) : W p l e R s m args below meth c H locs cells slots Z (F0 m pc ls (.ref (xad X (a, i, 0)) :: rest)) := by
  obtain ⟨hx, hb, hml, hown, hts, hK, hC, hX, -, -⟩ := C
  obtain ⟨hP, hS, -⟩ := hI
  obtain ⟨C, T, N, hcl, hbN, hw⟩ := hf
  obtain ⟨hlen, hin, -, -, -⟩ := xcfs hcl
  obtain ⟨q0, hq0⟩ := xpos hq
  have he := xws_get X μ hq0
  exact va_get (D := xD X) (cl := xcl) (ws := xws X μ) (tys := xtys X) hx hb hts hin hown hK hP q0 he hcl b hbN (hts _ hw) (fun _ h => h) (v := xslot X μ a i b sl) (by rw [xfs_get, hs]; rfl) hdg kk
theorem xr_putI (C : XCt X p R s m args c cc own nL) (hI : XI X s μ H locs) {a b i idx k : Nat} {x : Int32} (hf : xfl own (idx, a, b)) (hq : (a, i, 0) ∈ xdom) (hs : (xlay a)[b]? = some (.inl k)) (hk : k = 0 ∨ (k = 3 ∧ (x = 0 ∨ x = 1))) (hdg : decode cc pc = .ok (.putfield idx, 3))
    (kk : ∀ H1 locs1, XI X s (sI μ a i b x) H1 locs1 → W p l e R s m args below meth c H1 locs1 cells slots Z (F0 m (pc + 3) ls rest)) : W p l e R s m args below meth c H locs cells slots Z (F0 m pc ls (.int x :: .ref (xad X (a, i, 0)) :: rest)) := by
  obtain ⟨hx, hb, hml, hown, hts, hK, hC, hX, -, -⟩ := C
  obtain ⟨hP, hS, hscr⟩ := hI
  obtain ⟨C, T, N, hcl, hbN, hw⟩ := hf
  obtain ⟨hlen, hin, ⟨ty0, hty⟩, hnm, hsl⟩ := xcfs hcl
  have ⟨hfin, hpd⟩ : (T b).2.2.2 = false ∧ parseFieldDescriptor (T b).2.2.1 = some (xsty k) := by have h := hsl b hbN; rw [hs] at h; exact h
  obtain ⟨q0, hq0⟩ := xpos hq
  have he := xws_get X μ hq0
  have hk1 : k ≠ 1 := by omega
  have hlt : b < (xfs X μ a i).length := by simp [xfs, hlen, hbN]
  have hset : (xws X μ).set q0 (xad X (a, i, 0), .inr (a, (xfs X μ a i).set b (.int x))) = xws X (sI μ a i b x) := xws_set X μ (sI μ a i b x) hq0 (by show Sum.inr (a, xfs X (sI μ a i b x) a i) = _; rw [xfs_sI X μ a i b x hs hk1]) (fun q' h => xe_sI X μ a i b x q' h)
  have hn : narrow (xsty k) (.int x) = .int x := by
    rcases hk with rfl | ⟨rfl, rfl | rfl⟩ <;> first | rfl | decide +kernel
  have hfit : fits (xsty k) (.int x) = true := by
    rcases hk with rfl | ⟨rfl, rfl | rfl⟩ <;> first | rfl | decide +kernel
  refine va_put (D := xD X) (cl := xcl) (ws := xws X μ) (tys := xtys X) (A := xA X) (H0 := s.heap) hx hb hts hin ty0 hty hnm hown hK hP (hX.1 μ) hS q0 he hcl b hbN (hts _ hw) (fun _ h => h) hfin (ty := xsty k) (v := .int x) hpd hn hfit hlt hdg (fun H1 locs1 hP1 _ hS1 => ?_)
  rw [hset] at hP1
  exact kk H1 locs1 ⟨hP1, hS1, by unfold xscr; rw [aI_sI, rI_sI, if_neg (fun z => by have := xlay_lt hs; omega)]; exact hscr⟩
theorem xr_putL (C : XCt X p R s m args c cc own nL) (hI : XI X s μ H locs) {a b i idx : Nat} {x : Int64} (hf : xfl own (idx, a, b)) (hq : (a, i, 0) ∈ xdom) (hs : (xlay a)[b]? = some (.inl 1)) (hdg : decode cc pc = .ok (.putfield idx, 3))
    (kk : ∀ H1 locs1, XI X s (sL μ a i b x) H1 locs1 → W p l e R s m args below meth c H1 locs1 cells slots Z (F0 m (pc + 3) ls rest)) : W p l e R s m args below meth c H locs cells slots Z (F0 m pc ls (.long x :: .ref (xad X (a, i, 0)) :: rest)) := by
  obtain ⟨hx, hb, hml, hown, hts, hK, hC, hX, -, -⟩ := C
  obtain ⟨hP, hS, hscr⟩ := hI
  obtain ⟨C, T, N, hcl, hbN, hw⟩ := hf
  obtain ⟨hlen, hin, ⟨ty0, hty⟩, hnm, hsl⟩ := xcfs hcl
  have ⟨hfin, hpd⟩ : (T b).2.2.2 = false ∧ parseFieldDescriptor (T b).2.2.1 = some (xsty 1) := by have h := hsl b hbN; rw [hs] at h; exact h
  obtain ⟨q0, hq0⟩ := xpos hq
  have he := xws_get X μ hq0
  have hlt : b < (xfs X μ a i).length := by simp [xfs, hlen, hbN]
  have hset : (xws X μ).set q0 (xad X (a, i, 0), .inr (a, (xfs X μ a i).set b (.long x))) = xws X (sL μ a i b x) := xws_set X μ (sL μ a i b x) hq0 (by show Sum.inr (a, xfs X (sL μ a i b x) a i) = _; rw [xfs_sL X μ a i b x hs]) (fun q' h => xe_sL X μ a i b x q' h)
  refine va_put (D := xD X) (cl := xcl) (ws := xws X μ) (tys := xtys X) (A := xA X) (H0 := s.heap) hx hb hts hin ty0 hty hnm hown hK hP (hX.1 μ) hS q0 he hcl b hbN (hts _ hw) (fun _ h => h) hfin (ty := .long) (v := .long x) hpd rfl rfl hlt hdg (fun H1 locs1 hP1 _ hS1 => ?_)
  rw [hset] at hP1
  exact kk H1 locs1 ⟨hP1, hS1, by unfold xscr; rw [aI_sL, rI_sL]; exact hscr⟩
-- arrays: loads
theorem xae_i (X : XP) (μ : XM) {t i j kd n : Nat} (h : xarr t j = (kd, n)) (hk : kd = 0 ∨ kd = 2 ∨ kd = 3) : xe X μ (t, i, j + 1) = .inl (xcy X kd, n, .inl (aI μ t i j)) := by
  rcases hk with rfl | rfl | rfl <;> simp [xe, xae, h]
theorem xae_l (X : XP) (μ : XM) {t i j n : Nat} (h : xarr t j = (1, n)) : xe X μ (t, i, j + 1) = .inl (xcy X 1, n, .inr (.inl (aL μ t i j))) := by simp [xe, xae, h]
theorem xr_ld (C : XCt X p R s m args c cc own nL) (hI : XI X s μ H locs) {t i j kd n : Nat} {x : Int32} (hq : (t, i, j + 1) ∈ xdom) (ha : xarr t j = (kd, n)) (hin : xin x n = true)
    (hdg : (kd = 0 ∧ decode cc pc = .ok (.iaload, 1)) ∨ (kd = 2 ∧ decode cc pc = .ok (.caload, 1)) ∨ (kd = 3 ∧ decode cc pc = .ok (.baload, 1)))
    (kk : W p l e R s m args below meth c H locs cells slots Z (F0 m (pc + 1) ls (.int (aI μ t i j x.toNatClampNeg) :: rest))) : W p l e R s m args below meth c H locs cells slots Z (F0 m pc ls (.int x :: .ref (xad X (t, i, j + 1)) :: rest)) := by
  obtain ⟨hx, hb, hml, hown, hts, hK, hC, hX, -, -⟩ := C
  obtain ⟨hP, hS, -⟩ := hI
  obtain ⟨q0, hq0⟩ := xpos hq
  have he := xws_get X μ hq0
  rw [xae_i X μ ha (by omega)] at he
  rcases hdg with ⟨rfl, hdg⟩ | ⟨rfl, hdg⟩ | ⟨rfl, hdg⟩
  · exact va_iald hx hb hK hP q0 0 he rfl (xin_vp hin) hdg kk
  · exact va_cald hx hb hK hP q0 2 he rfl (xin_vp hin) hdg kk
  · exact va_zald hx hb hK hP q0 3 he rfl (xin_vp hin) hdg kk
theorem xr_ldl (C : XCt X p R s m args c cc own nL) (hI : XI X s μ H locs) {t i j n : Nat} {x : Int32} (hq : (t, i, j + 1) ∈ xdom) (ha : xarr t j = (1, n)) (hin : xin x n = true) (hdg : decode cc pc = .ok (.laload, 1))
    (kk : W p l e R s m args below meth c H locs cells slots Z (F0 m (pc + 1) ls (.long (aL μ t i j x.toNatClampNeg) :: rest))) : W p l e R s m args below meth c H locs cells slots Z (F0 m pc ls (.int x :: .ref (xad X (t, i, j + 1)) :: rest)) := by
  obtain ⟨hx, hb, hml, hown, hts, hK, hC, hX, -, -⟩ := C
  obtain ⟨hP, hS, -⟩ := hI
  obtain ⟨q0, hq0⟩ := xpos hq
  have he := xws_get X μ hq0
  rw [xae_l X μ ha] at he
  exact va_lald hx hb hK hP q0 1 he rfl (xin_vp hin) hdg kk
theorem xr_ldr (C : XCt X p R s m args c cc own nL) (hI : XI X s μ H locs) {t i j kd n : Nat} {x : Int32} (hq : (t, i, j + 1) ∈ xdom) (ha : xarr t j = (kd, n)) (hkd : kd = 4 ∨ kd = 5) (hin : xin x n = true) (hdg : decode cc pc = .ok (.aaload, 1))
    (kk : W p l e R s m args below meth c H locs cells slots Z (F0 m (pc + 1) ls (.ref (xad X (xrow kd x.toNatClampNeg)) :: rest))) : W p l e R s m args below meth c H locs cells slots Z (F0 m pc ls (.int x :: .ref (xad X (t, i, j + 1)) :: rest)) := by
  obtain ⟨hx, hb, hml, hown, hts, hK, hC, hX, -, -⟩ := C
  obtain ⟨hP, hS, -⟩ := hI
  obtain ⟨q0, hq0⟩ := xpos hq
  have he := xws_get X μ hq0
  rcases hkd with rfl | rfl
  · rw [show xe X μ (t, i, j + 1) = .inl (xcy X 4, n, .inr (.inr (.inr (.inr (fun k => some (xad X (xrow 4 k))))))) by simp [xe, xae, ha]] at he
    exact va_aldq hx hb hK hP q0 4 he rfl (xin_vp hin) hdg kk
  · rw [show xe X μ (t, i, j + 1) = .inl (xcy X 5, n, .inr (.inr (.inr (.inr (fun k => some (xad X (xrow 5 k))))))) by simp [xe, xae, ha]] at he
    exact va_aldq hx hb hK hP q0 5 he rfl (xin_vp hin) hdg kk
theorem xr_scr (C : XCt X p R s m args c cc own nL) (hI : XI X s μ H locs) {x : Int32} (hin : xin x (rI μ 13 0 0).toNatClampNeg = true) (hdg : decode cc pc = .ok (.iaload, 1))
    (kk : W p l e R s m args below meth c H locs cells slots Z (F0 m (pc + 1) ls (.int (aI μ 13 0 0 x.toNatClampNeg) :: rest))) : W p l e R s m args below meth c H locs cells slots Z (F0 m pc ls (.int x :: .ref (xad X (13, 0, 1)) :: rest)) := by
  obtain ⟨hx, hb, hml, hown, hts, hK, hC, hX, -, -⟩ := C
  obtain ⟨hP, hS, h1, h2⟩ := hI
  obtain ⟨g1, g2, g3⟩ := hX.2.2.2.1 s s.heap hC
  rw [h2, nI_clamp hX.2.2.2.2.2.2] at hin
  rw [h1] at kk
  exact va_sld hx hb g1 g3 g2 hS (xin_vp hin) hdg kk
theorem xr_scl (C : XCt X p R s m args c cc own nL) (hI : XI X s μ H locs) (hdg : decode cc pc = .ok (.arraylength, 1))
    (kk : W p l e R s m args below meth c H locs cells slots Z (F0 m (pc + 1) ls (.int (rI μ 13 0 0) :: rest))) : W p l e R s m args below meth c H locs cells slots Z (F0 m pc ls (.ref (xad X (13, 0, 1)) :: rest)) := by
  obtain ⟨hx, hb, hml, hown, hts, hK, hC, hX, -, -⟩ := C
  obtain ⟨hP, hS, h1, h2⟩ := hI
  obtain ⟨⟨scr, g1, g2, g3, g4, g5⟩, gA, gl⟩ := hX.2.2.2.1 s s.heap hC
  refine W.alen (n := rI μ 13 0 0) hx hb (a := xad X (13, 0, 1)) (cell := scr) (by rw [hS.2.1 _ gl gA]; exact g1) g2 (by rw [g4, h2]; rfl) (g := F0 m pc ls (.ref (xad X (13, 0, 1)) :: rest)) rfl rfl hdg kk
theorem xr_alen (C : XCt X p R s m args c cc own nL) (hI : XI X s μ H locs) {t i j kd n : Nat} (hq : (t, i, j + 1) ∈ xdom) (ha : xarr t j = (kd, n)) (hkd : kd ≤ 5) (hdg : decode cc pc = .ok (.arraylength, 1))
    (kk : W p l e R s m args below meth c H locs cells slots Z (F0 m (pc + 1) ls (.int (nI n) :: rest))) : W p l e R s m args below meth c H locs cells slots Z (F0 m pc ls (.ref (xad X (t, i, j + 1)) :: rest)) := by
  obtain ⟨hx, hb, hml, hown, hts, hK, hC, hX, -, -⟩ := C
  obtain ⟨hP, hS, -⟩ := hI
  obtain ⟨q0, hq0⟩ := xpos hq
  have he := xws_get X μ hq0
  rcases (show kd = 0 ∨ kd = 1 ∨ kd = 2 ∨ kd = 3 ∨ kd = 4 ∨ kd = 5 by omega) with rfl | rfl | rfl | rfl | rfl | rfl
  · rw [xae_i X μ ha (by omega)] at he; exact va_alen hx hb hK hP q0 0 he rfl rfl hdg kk
  · rw [xae_l X μ ha] at he; exact va_alen hx hb hK hP q0 1 he rfl rfl hdg kk
  · rw [xae_i X μ ha (by omega)] at he; exact va_alen hx hb hK hP q0 2 he rfl rfl hdg kk
  · rw [xae_i X μ ha (by omega)] at he; exact va_alen hx hb hK hP q0 3 he rfl rfl hdg kk
  · rw [show xe X μ (t, i, j + 1) = .inl (xcy X 4, n, .inr (.inr (.inr (.inr (fun k => some (xad X (xrow 4 k))))))) by simp [xe, xae, ha]] at he
    exact va_alen hx hb hK hP q0 4 he rfl rfl hdg kk
  · rw [show xe X μ (t, i, j + 1) = .inl (xcy X 5, n, .inr (.inr (.inr (.inr (fun k => some (xad X (xrow 5 k))))))) by simp [xe, xae, ha]] at he
    exact va_alen hx hb hK hP q0 5 he rfl rfl hdg kk
-- arrays: stores
theorem xarr_lt {t j kd n : Nat} (h : xarr t j = (kd, n)) (hk : kd ≤ 5) : t ≠ 13 := by
  intro ht
  subst ht
  rcases j with _ | j
  · have : xarr 13 0 = (8, 0) := rfl
    rw [this] at h; cases h; omega
  · have : xarr 13 (j + 1) = (9, 0) := by simp [xarr]
    rw [this] at h; cases h; omega
theorem xscr_wI {t i j : Nat} {f : Nat → Int32} (h : xscr X μ) (ht : t ≠ 13) : xscr X (wI μ t i j f) := by
  unfold xscr
  rw [aI_wI, rI_wI, if_neg (fun z => ht z.1.symm)]
  exact h
theorem xscr_wL {t i j : Nat} {f : Nat → Int64} (h : xscr X μ) : xscr X (wL μ t i j f) := by
  unfold xscr
  rw [aI_wL, rI_wL]
  exact h
theorem xset_wI (X : XP) (μ : XM) {t i j kd n p : Nat} (f : Nat → Int32) (hp : xdom[p]? = some (t, i, j + 1)) (ha : xarr t j = (kd, n)) (hk : kd = 0 ∨ kd = 2 ∨ kd = 3) :
    (xws X μ).set p (xad X (t, i, j + 1), .inl (xcy X kd, n, .inl f)) = xws X (wI μ t i j f) :=
  xws_set X μ (wI μ t i j f) hp (by rw [xae_i X _ ha hk, aI_wI, if_pos ⟨rfl, rfl, rfl⟩]) (fun q' h => xe_wI X μ t i j f q' h)
theorem xset_wL (X : XP) (μ : XM) {t i j n p : Nat} (f : Nat → Int64) (hp : xdom[p]? = some (t, i, j + 1)) (ha : xarr t j = (1, n)) :
    (xws X μ).set p (xad X (t, i, j + 1), .inl (xcy X 1, n, .inr (.inl f))) = xws X (wL μ t i j f) :=
  xws_set X μ (wL μ t i j f) hp (by rw [xae_l X _ ha, aL_wL, if_pos ⟨rfl, rfl, rfl⟩]) (fun q' h => xe_wL X μ t i j f q' h)
theorem vp_nar_bool {x : Int32} (h : x = 0 ∨ x = 1) : vp_nar .boolean x = x := by
  rcases h with rfl | rfl <;> decide +kernel
theorem xr_st (C : XCt X p R s m args c cc own nL) (hI : XI X s μ H locs) {t i j kd n : Nat} {x v w : Int32} (hq : (t, i, j + 1) ∈ xdom) (ha : xarr t j = (kd, n)) (hin : xin x n = true)
    (hdg : (kd = 0 ∧ w = v ∧ decode cc pc = .ok (.iastore, 1)) ∨ (kd = 2 ∧ w = vp_nar .char v ∧ decode cc pc = .ok (.castore, 1)) ∨ (kd = 3 ∧ w = v ∧ (v = 0 ∨ v = 1) ∧ decode cc pc = .ok (.bastore, 1)))
    (kk : ∀ H1 locs1, XI X s (pI μ t i j x.toNatClampNeg w) H1 locs1 → W p l e R s m args below meth c H1 locs1 cells slots Z (F0 m (pc + 1) ls rest)) : W p l e R s m args below meth c H locs cells slots Z (F0 m pc ls (.int v :: .int x :: .ref (xad X (t, i, j + 1)) :: rest)) := by
  obtain ⟨hx, hb, hml, hown, hts, hK, hC, hX, -, -⟩ := C
  obtain ⟨hP, hS, hscr⟩ := hI
  obtain ⟨q0, hq0⟩ := xpos hq
  have he := xws_get X μ hq0
  rw [xae_i X μ ha (by omega)] at he
  have ht : t ≠ 13 := xarr_lt ha (by omega)
  rcases hdg with ⟨rfl, rfl, hdg⟩ | ⟨rfl, rfl, hdg⟩ | ⟨rfl, rfl, hv, hdg⟩
  · refine va_iast (A := xA X) (H0 := s.heap) hx hb hK hP (hX.1 μ) hS q0 0 he rfl (xin_vp hin) hdg (fun H1 locs1 hP1 _ hS1 => kk H1 locs1 ⟨?_, hS1, xscr_wI hscr ht⟩)
    rw [xset_wI X μ _ hq0 ha (by omega)] at hP1; exact hP1
  · refine va_cast (A := xA X) (H0 := s.heap) hx hb hK hP (hX.1 μ) hS q0 2 he rfl (xin_vp hin) hdg (fun H1 locs1 hP1 _ hS1 => kk H1 locs1 ⟨?_, hS1, xscr_wI hscr ht⟩)
    rw [xset_wI X μ _ hq0 ha (by omega)] at hP1; exact hP1
  · refine va_zast (A := xA X) (H0 := s.heap) hx hb hK hP (hX.1 μ) hS q0 3 he rfl (xin_vp hin) hdg (fun H1 locs1 hP1 _ hS1 => kk H1 locs1 ⟨?_, hS1, xscr_wI hscr ht⟩)
    rw [vp_nar_bool hv, xset_wI X μ _ hq0 ha (by omega)] at hP1; exact hP1
theorem xr_stl (C : XCt X p R s m args c cc own nL) (hI : XI X s μ H locs) {t i j n : Nat} {x : Int32} {v : Int64} (hq : (t, i, j + 1) ∈ xdom) (ha : xarr t j = (1, n)) (hin : xin x n = true) (hdg : decode cc pc = .ok (.lastore, 1))
    (kk : ∀ H1 locs1, XI X s (pL μ t i j x.toNatClampNeg v) H1 locs1 → W p l e R s m args below meth c H1 locs1 cells slots Z (F0 m (pc + 1) ls rest)) : W p l e R s m args below meth c H locs cells slots Z (F0 m pc ls (.long v :: .int x :: .ref (xad X (t, i, j + 1)) :: rest)) := by
  obtain ⟨hx, hb, hml, hown, hts, hK, hC, hX, -, -⟩ := C
  obtain ⟨hP, hS, hscr⟩ := hI
  obtain ⟨q0, hq0⟩ := xpos hq
  have he := xws_get X μ hq0
  rw [xae_l X μ ha] at he
  refine va_last (A := xA X) (H0 := s.heap) hx hb hK hP (hX.1 μ) hS q0 1 he rfl (xin_vp hin) hdg (fun H1 locs1 hP1 _ hS1 => kk H1 locs1 ⟨?_, hS1, xscr_wL hscr⟩)
  rw [xset_wL X μ _ hq0 ha] at hP1; exact hP1
/-- the JDK's functions that are rows here: 1 max, 2 min, 3 abs, 4 arraycopy -/
def xjd (own : String) (q : Nat × Nat) : Prop :=
  (q.2 = 1 ∧ Cond.methodLink own q.1 Lib.Math.max.name ∈ xG ∧ Cond.static Lib.Math.max.name ∈ xG ∧ Cond.initialized "java/lang/Math" ∈ xG ∧ Cond.code Lib.Math.max.name Lib.Math.max.code 2 (some .int) ∈ xG) ∨
  (q.2 = 2 ∧ Cond.methodLink own q.1 Lib.Math.min.name ∈ xG ∧ Cond.static Lib.Math.min.name ∈ xG ∧ Cond.initialized "java/lang/Math" ∈ xG ∧ Cond.code Lib.Math.min.name Lib.Math.min.code 2 (some .int) ∈ xG) ∨
  (q.2 = 3 ∧ Cond.methodLink own q.1 Lib.Math.abs.name ∈ xG ∧ Cond.static Lib.Math.abs.name ∈ xG ∧ Cond.initialized "java/lang/Math" ∈ xG ∧ Cond.code Lib.Math.abs.name Lib.Math.abs.code 1 (some .int) ∈ xG) ∨
  (q.2 = 4 ∧ Cond.methodLink own q.1 arraycopyName ∈ xG ∧ Cond.native arraycopyName ∈ xG ∧ Cond.static arraycopyName ∈ xG ∧ Cond.initialized "java/lang/System" ∈ xG)
theorem xcpok_of {sp dp n : Int32} {n0 n1 : Nat} (h : xcpok sp dp n n0 n1 = true) : ¬ sp < 0 ∧ ¬ dp < 0 ∧ ¬ n < 0 ∧ sp.toNatClampNeg + n.toNatClampNeg ≤ n0 ∧ dp.toNatClampNeg + n.toNatClampNeg ≤ n1 := by
  simp only [xcpok, Bool.and_eq_true, Bool.not_eq_true', decide_eq_false_iff_not, decide_eq_true_eq] at h
  exact ⟨h.1.1.1.1, h.1.1.1.2, h.1.1.2, h.1.2, h.2⟩
theorem xnfw : nativeFrameWords "java/lang/System" "arraycopy" 5 ≤ 60 := by decide +kernel
theorem xr_cpi (C : XCt X p R s m args c cc own nL) (hls : ls.size = nL) (hI : XI X s μ H locs) {t0 i0 j0 t1 i1 j1 n0 n1 idx : Nat} {sp dp n : Int32} (hj : xjd own (idx, 4)) (hq0 : (t0, i0, j0 + 1) ∈ xdom) (hq1 : (t1, i1, j1 + 1) ∈ xdom) (ha0 : xarr t0 j0 = (0, n0)) (ha1 : xarr t1 j1 = (0, n1)) (hok : xcpok sp dp n n0 n1 = true) (hr : (rest.map fun v => v.category).sum ≤ 8) (hdg : decode cc pc = .ok (.invokestatic idx, 3))
    (kk : ∀ H1 locs1, XI X s (wI μ t1 i1 j1 (va_cpy (aI μ t0 i0 j0) (aI μ t1 i1 j1) sp.toNatClampNeg dp.toNatClampNeg n.toNatClampNeg)) H1 locs1 → W p l e R s m args below meth c H1 locs1 cells slots Z (F0 m (pc + 3) ls rest)) : W p l e R s m args below meth c H locs cells slots Z (F0 m pc ls (.int n :: .int dp :: .ref (xad X (t1, i1, j1 + 1)) :: .int sp :: .ref (xad X (t0, i0, j0 + 1)) :: rest)) := by
  obtain ⟨hx, hb, hml, hown, hts, hK, hC, hX, hfr, hlo⟩ := C
  obtain ⟨hP, hS, hscr⟩ := hI
  obtain ⟨z, -⟩ | ⟨z, -⟩ | ⟨z, -⟩ | ⟨-, w1, w2, w3, w4⟩ := hj
  · cases z
  · cases z
  · cases z
  obtain ⟨p0, hp0⟩ := xpos hq0
  obtain ⟨p1, hp1⟩ := xpos hq1
  have he0 := xws_get X μ hp0
  have he1 := xws_get X μ hp1
  rw [xae_i X μ ha0 (by omega)] at he0
  rw [xae_i X μ ha1 (by omega)] at he1
  obtain ⟨k1, k2, k3, k4, k5⟩ := xcpok_of hok
  have hrm : (rest.map fun v => v.category).sum + (nativeFrameWords "java/lang/System" "arraycopy" 5 + 11) ≤ R.locals := by
    have := xnfw
    omega
  refine va_copyi (A := xA X) (H0 := s.heap) hx hb (by rw [hml, hls]) hown (hts _ w1) (hts _ w2) (hts _ w3) (hts _ w4) hK hP (hX.1 μ) hS p0 p1 0 0 he0 he1 rfl rfl rfl k1 k2 k3 k4 k5 (fun _ _ => rfl) hfr hrm hdg (fun H1 locs1 hP1 _ hS1 => kk H1 locs1 ⟨?_, hS1, xscr_wI hscr (xarr_lt ha1 (by omega))⟩)
  rw [xset_wI X μ _ hp1 ha1 (by omega)] at hP1; exact hP1
theorem xr_cpl (C : XCt X p R s m args c cc own nL) (hls : ls.size = nL) (hI : XI X s μ H locs) {t0 i0 j0 t1 i1 j1 n0 n1 idx : Nat} {sp dp n : Int32} (hj : xjd own (idx, 4)) (hq0 : (t0, i0, j0 + 1) ∈ xdom) (hq1 : (t1, i1, j1 + 1) ∈ xdom) (ha0 : xarr t0 j0 = (1, n0)) (ha1 : xarr t1 j1 = (1, n1)) (hok : xcpok sp dp n n0 n1 = true) (hr : (rest.map fun v => v.category).sum ≤ 8) (hdg : decode cc pc = .ok (.invokestatic idx, 3))
    (kk : ∀ H1 locs1, XI X s (wL μ t1 i1 j1 (va_cpy (aL μ t0 i0 j0) (aL μ t1 i1 j1) sp.toNatClampNeg dp.toNatClampNeg n.toNatClampNeg)) H1 locs1 → W p l e R s m args below meth c H1 locs1 cells slots Z (F0 m (pc + 3) ls rest)) : W p l e R s m args below meth c H locs cells slots Z (F0 m pc ls (.int n :: .int dp :: .ref (xad X (t1, i1, j1 + 1)) :: .int sp :: .ref (xad X (t0, i0, j0 + 1)) :: rest)) := by
  obtain ⟨hx, hb, hml, hown, hts, hK, hC, hX, hfr, hlo⟩ := C
  obtain ⟨hP, hS, hscr⟩ := hI
  obtain ⟨z, -⟩ | ⟨z, -⟩ | ⟨z, -⟩ | ⟨-, w1, w2, w3, w4⟩ := hj
  · cases z
  · cases z
  · cases z
  obtain ⟨p0, hp0⟩ := xpos hq0
  obtain ⟨p1, hp1⟩ := xpos hq1
  have he0 := xws_get X μ hp0
  have he1 := xws_get X μ hp1
  rw [xae_l X μ ha0] at he0
  rw [xae_l X μ ha1] at he1
  obtain ⟨k1, k2, k3, k4, k5⟩ := xcpok_of hok
  have hrm : (rest.map fun v => v.category).sum + (nativeFrameWords "java/lang/System" "arraycopy" 5 + 11) ≤ R.locals := by
    have := xnfw
    omega
  refine va_copyl (A := xA X) (H0 := s.heap) hx hb (by rw [hml, hls]) hown (hts _ w1) (hts _ w2) (hts _ w3) (hts _ w4) hK hP (hX.1 μ) hS p0 p1 1 1 he0 he1 rfl rfl rfl k1 k2 k3 k4 k5 (fun _ _ => rfl) hfr hrm hdg (fun H1 locs1 hP1 _ hS1 => kk H1 locs1 ⟨?_, hS1, xscr_wL hscr⟩)
  rw [xset_wL X μ _ hp1 ha1] at hP1; exact hP1
end
end
section
/-! ===== BEGIN exceptions that leave a method, and their catching by the caller (launches without stack traces) ===== -/
section VXA
/-! The laws vx_back, vx_callV, vx_callS, vx_callSW, vx_throw0, vx_throwS follow proofs of the library, with one case more: JvmDerived/Free/Laws.lean (Back.of_free), Shelf42/LK1.lean (callV, callS), Shelf/KitTraced.lean (throwNew0V, throwNewS). -/
/-- where a method has thrown q: the class by its name, the cell, what was written, the world -/
def vx_T (XC : String → State → State → Prop) (st : State) (q : Addr) (t : State) (mc ms : Nat) (free : Addr → Prop) : Prop :=
  ∃ (E : String) (ce : Cell) (L : List Loc), XC E st t ∧ t.heap[q]? = some ce ∧ ce.vm = .none ∧ st.vm.findClass E = some ce.cls ∧ st.WarmedH t.vm ∧ st.sameButNew ({ t with vm := st.vm } : State) L mc ms ∧ ∀ z ∈ L, free z.base
def vx_Q (Qc : Array Value → State → Outcome → State → Prop) (XC : String → State → State → Prop) (mc ms : Nat) (free : Addr → Prop) : Array Value → State → Outcome → State → Prop := fun a st o t =>
  (Qc a st o t ∧ ∃ L, FrameEnd st o t L mc ms ∧ ∀ q ∈ L, free q.base) ∨ ∃ q, o = .threw q ∧ vx_T XC st q t mc ms free
/-- a callee that returns or throws -/
def vx_Met (l : Launch) (y : MethodName) (ws : List Cond) (rm : Room) (Pc : Array Value → State → Prop) (Qc : Array Value → State → Outcome → State → Prop) (XC : String → State → State → Prop) (mc ms : Nat) (free : Addr → Prop) : Prop :=
  MetFree l y (headSpec ws rm) Pc (fun _ _ _ _ _ => True) (vx_Q Qc XC mc ms free)
def vx_Post (XC : String → State → State → Prop) (mc ms : Nat) (free : Addr → Prop) : Pt → Array Value → Addr → Pt → Prop := fun A a q B =>
  ∃ (g : JFrame) (mk : MethodId) (t : State) (L : List Loc) (E : String) (ce : Cell), B.U.heap = t.heap ∧ B.U.vm = t.vm ∧ XC E (A.U.calling g mk a) t ∧ t.heap[q]? = some ce ∧ ce.vm = .none ∧ A.U.vm.findClass E = some ce.cls ∧ B.locs = A.locs ++ L ∧ (∀ z ∈ L, free z.base) ∧ B.cells = A.cells + mc ∧ B.slots = A.slots + ms
def vx_Back (l : Launch) (R : Room) (p : Program) (e : Env) (below : List Frame) (s : State) (sargs : Array Value) (y : MethodName) (len W9 : Nat)
    (Pre : Pt → Array Value → Prop) (Post : Pt → Array Value → Option Value → Pt → Prop) (PostX : Pt → Array Value → Addr → Pt → Prop) : Prop :=
  ∀ (m : MethodId) (meth : Method) (c : Code) (A : Pt) (g : JFrame) (ig : Instr) (mk : MethodId) (a : Array Value),
    Stand p l e R s m sargs below meth c A.U A.locs A.cells A.slots → g.method = m → g.locals.size = c.maxLocals → decode c.code g.pc = .ok (ig, len) →
    2 * g.monitorRoom + (g.stack.map fun v => v.category).sum ≤ W9 → A.U.methodNamed? y = some mk → Pre A a →
    (∃ (v : Option Value) (B : Pt), Stand p l e R s m sargs below meth c B.U B.locs B.cells B.slots ∧ Post A a v B ∧
      Steps p.tables e below (doInvoke e (A.U.setTop g) [] mk a).1 (B.U.setTop { g with pc := g.pc + len, stack := v.toList ++ g.stack })) ∨
    (∃ (q : Addr) (B : Pt), Stand p l e R s m sargs below meth c B.U B.locs B.cells B.slots ∧ PostX A a q B ∧
      Steps p.tables e below (doInvoke e (A.U.setTop g) [] mk a).1 ((B.U.setTop g).pushFrame (.throwing q)))
section Payer
variable {l : Launch} {R : Room} {p : Program} {e : Env} {below : List Frame} {s : State} {sargs : Array Value} {y : MethodName} {len W9 : Nat}
theorem vx_back {ws : List Cond} {rm : Room} {Pc : Array Value → State → Prop} {Qc : Array Value → State → Outcome → State → Prop} {XC : String → State → State → Prop} {mc ms : Nat} {free : Addr → Prop} {bytes : ByteArray} {maxL : Nat} {ret : Option FieldType}
    (hM : vx_Met l y ws rm Pc Qc XC mc ms free) (hblind : FrameBlind Pc) (hrc : rm.cells = mc) (hrs : rm.slots = ms)
    (hframes : rm.frames + 1 ≤ R.frames) (hlocals : W9 + (maxL + 11) + rm.locals ≤ R.locals)
    (hws : ∀ w ∈ ws, ∀ a' U, s.WarmedH U.vm → w.before a' U = true) (hcode : Cond.code y bytes maxL ret ∈ ws) (hinit : ∀ a' U, s.WarmedH U.vm → (Cond.initialized y.cls).before a' U = true) :
    vx_Back l R p e below s sargs y len W9 (PreOf R mc ms Pc) (PostOf Qc mc ms free) (vx_Post XC mc ms free) := by
  intro m meth c A g ig mk a X hg hsize hdg hW hn hp
  have h1 : (headSpec ws rm).pre.before a A.U = true := atoms_intro fun w hw => hws w hw _ _ X.warmed
  have h2 : (Cond.code y bytes maxL ret).before a A.U = true := hws _ hcode _ _ X.warmed
  have h3 : (Cond.initialized y.cls).before a A.U = true := hinit _ _ X.warmed
  have h4 : A.cells + (headSpec ws rm).room.cells ≤ R.cells := by rw [show (headSpec ws rm).room.cells = mc from hrc]; exact hp.1
  have h5 : A.slots + (headSpec ws rm).room.slots ≤ R.slots := by rw [show (headSpec ws rm).room.slots = ms from hrs]; exact hp.2.1
  have hPc : Pc a (A.U.calling g mk a) := hblind _ _ _ _ hp.2.2
  obtain ⟨U, Ls, c0, s0⟩ := A
  dsimp only [Pt.U, Pt.locs, Pt.cells, Pt.slots] at h1 h2 h3 h4 h5 X hn hPc ⊢
  obtain ⟨methY, cY, hmY, hcY, -, hlY, -, -, -, -⟩ := Cond.code_spec hn h2
  obtain ⟨kY, hkY, -⟩ := className_of_methodNamed hn
  have hinitY : kY.init = .initialized := Cond.initialized_spec (findClass_of_methodNamed hn) hkY h3
  have h : At U g.method c below := by rw [hg]; exact X.here
  have hlocals9 : W9 + (maxL + 11) + (headSpec ws rm).room.locals ≤ R.locals := hlocals
  have happ : (headSpec ws rm).appliesLoose y e.platform (U.calling g mk a) = true :=
    Spec.appliesLoose_calling (g := g) h hdg hn hkY hinitY
      (X.room_calling (g := g) (R' := (headSpec ws rm).room) hsize hmY hcY hframes (by rw [hlY]; omega) h4 h5) h1
  obtain ⟨mid, hmid⟩ := h.above
  have hfr : (U.setTop g).frames = (.java g :: mid) ++ below := by rw [State.frames_setTop' g h.top, hmid]; rfl
  obtain ⟨o, s₂, hsteps, -, hend, hq⟩ := Steps.callFree hM p X.admits X.cas X.clock (acts := []) hfr happ hPc trivial
  have hq' : vx_Q Qc XC mc ms free a (U.calling g mk a) o s₂ := hq
  rw [State.frames_setTop' g h.top] at hend
  obtain ⟨g₀, hg0⟩ := Option.isSome_iff_exists.mp h.top
  obtain ⟨r, hr⟩ := State.topJava?_eq_some.mp hg0
  have hr' : (({ U with heap := s₂.heap, slotsUsed := s₂.slotsUsed } : State).setVm s₂.vm).frames = .java g₀ :: r := hr
  rcases hq' with ⟨hqc, L, hfe, hL⟩ | ⟨q, rfl, E, ce, L, hx, hce, hcv, hcl, hW₂, hsm, hL⟩
  · obtain ⟨⟨v, rfl⟩, hW₂, e2, q2, q3, q4, q5, q6⟩ := id hfe
    have e3 : s₂ = ({ (U.calling g mk a).setFrames s₂.frames with heap := s₂.heap, slotsUsed := s₂.slotsUsed } : State).setVm s₂.vm := by
      have : s₂ = ({ s₂ with vm := (U.calling g mk a).vm } : State).setVm s₂.vm := rfl
      rw [e2] at this
      exact this
    obtain ⟨c₂, i₂, len₂, hc₂, hd₂, hf₂⟩ := hend
    have hW' : U.WarmedH s₂.vm := hW₂
    have hcc : c₂ = c := by
      have h1 : s₂.code? g.method = U.code? g.method := by
        rw [State.code?_eq, State.code?_eq, hW'.alike.method?]
      exact Option.some.inj (hc₂.symm.trans (h1.trans h.code))
    subst hcc
    have hlen : len₂ = len := by rw [hdg] at hd₂; cases hd₂; rfl
    subst hlen
    have hs₂ : s₂ = (({ U with heap := s₂.heap, slotsUsed := s₂.slotsUsed } : State).setVm s₂.vm).setTop { g with pc := g.pc + len₂, stack := v.toList ++ g.stack } := by
      refine e3.trans ?_
      rw [hf₂, State.calling_eq h.top, State.setFrames_setFrames, State.setTop_of_frames _ hr', hr]
      rfl
    have hsame : U.sameButNew ({ U with heap := s₂.heap, slotsUsed := s₂.slotsUsed } : State) L mc ms := by
      refine ⟨?_, q2, q3, q4, q5, q6⟩
      obtain ⟨t, ht, -⟩ := State.frames_cons hr
      show ({ U with heap := s₂.heap, slotsUsed := s₂.slotsUsed } : State) = { U.setFrames U.frames with heap := s₂.heap, slotsUsed := s₂.slotsUsed }
      rw [State.setFrames_self ht]
    subst hg
    refine Or.inl ⟨v, ⟨(({ U with heap := s₂.heap, slotsUsed := s₂.slotsUsed } : State).setVm s₂.vm), Ls ++ L, c0 + mc, s0 + ms⟩,
      ⟨X.admits, X.cas, X.clock, X.frames, X.room, X.hears, X.method, X.code, (X.here.setHeapUsed s₂.heap s₂.slotsUsed).setVm hW'.alike, X.tail, State.WarmedH.trans X.warmed hW', X.limits, X.bytes, X.same.trans (hsame.setVm s.vm)⟩,
      ⟨g, mk, s₂, L, rfl, rfl, hqc, rfl, hL, rfl, rfl⟩, ?_⟩
    show Steps p.tables e below _ ((({ U with heap := s₂.heap, slotsUsed := s₂.slotsUsed } : State).setVm s₂.vm).setTop { g with pc := g.pc + len₂, stack := v.toList ++ g.stack })
    rw [← hs₂]
    exact hsteps
  · obtain ⟨e2, q2, q3, q4, q5, q6⟩ := id hsm
    have e3 : s₂ = ({ (U.calling g mk a).setFrames s₂.frames with heap := s₂.heap, slotsUsed := s₂.slotsUsed } : State).setVm s₂.vm := by
      have : s₂ = ({ s₂ with vm := (U.calling g mk a).vm } : State).setVm s₂.vm := rfl
      rw [e2] at this
      exact this
    have hf₂ : s₂.frames = .throwing q :: .java g :: U.frames.tail := hend
    have hW' : U.WarmedH s₂.vm := hW₂
    have hs₂ : s₂ = ((({ U with heap := s₂.heap, slotsUsed := s₂.slotsUsed } : State).setVm s₂.vm).setTop g).pushFrame (.throwing q) := by
      refine e3.trans ?_
      rw [hf₂, State.calling_eq h.top, State.setFrames_setFrames, State.pushFrame, State.frames_setTop _ hr', State.setTop_of_frames _ hr', State.setFrames_setFrames, hr]
      rfl
    have hsame : U.sameButNew ({ U with heap := s₂.heap, slotsUsed := s₂.slotsUsed } : State) L mc ms := by
      refine ⟨?_, q2, q3, q4, q5, q6⟩
      obtain ⟨t, ht, -⟩ := State.frames_cons hr
      show ({ U with heap := s₂.heap, slotsUsed := s₂.slotsUsed } : State) = { U.setFrames U.frames with heap := s₂.heap, slotsUsed := s₂.slotsUsed }
      rw [State.setFrames_self ht]
    subst hg
    refine Or.inr ⟨q, ⟨(({ U with heap := s₂.heap, slotsUsed := s₂.slotsUsed } : State).setVm s₂.vm), Ls ++ L, c0 + mc, s0 + ms⟩,
      ⟨X.admits, X.cas, X.clock, X.frames, X.room, X.hears, X.method, X.code, (X.here.setHeapUsed s₂.heap s₂.slotsUsed).setVm hW'.alike, X.tail, State.WarmedH.trans X.warmed hW', X.limits, X.bytes, X.same.trans (hsame.setVm s.vm)⟩,
      ⟨g, mk, s₂, L, E, ce, rfl, rfl, hx, hce, hcv, hcl, rfl, hL, rfl, rfl⟩, ?_⟩
    show Steps p.tables e below _ (((({ U with heap := s₂.heap, slotsUsed := s₂.slotsUsed } : State).setVm s₂.vm).setTop g).pushFrame (.throwing q))
    rw [← hs₂]
    exact hsteps
end Payer
section Calls
variable {p : Program} {l : Launch} {e : Env} {R : Room} {s : State} {m : MethodId} {args : Array Value} {below : List Frame} {meth : Method} {c : Code} {T : State} {locs : List Loc} {cells slots : Nat}
theorem vx_callV (X : Stand p l e R s m args below meth c T locs cells slots) (hexec : p.tables.exec = Jvm.exec) {own C : String} {index : Nat} {y : MethodName} {bytes : ByteArray} {maxL : Nat} {ret : Option FieldType}
    (hown : s.vm.findClass own = some m.cls) (hlink : (Cond.methodLink own index y).before args s = true) (hinst : (Cond.instanceMethod y).before args s = true) (hsel : (Cond.selects C y y).before args s = true)
    (hcode : (Cond.code y bytes maxL ret).before args s = true) (hy : y.cls ≠ "java/lang/invoke/MethodHandle" ∧ y.cls ≠ "java/lang/invoke/VarHandle")
    {W9 : Nat} {Pre : Pt → Array Value → Prop} {Post : Pt → Array Value → Option Value → Pt → Prop} {PostX : Pt → Array Value → Addr → Pt → Prop} (hK : vx_Back l R p e below s args y 3 W9 Pre Post PostX)
    {b : Addr} {cellB : Cell} (hcell : T.heap[b]? = some cellB) (hobj : cellB.vm.isStatics = false) (hcls : s.vm.findClass C = some cellB.cls)
    {g : JFrame} (hg : g.method = m) (hsize : g.locals.size = c.maxLocals) {argsL rest : List Value} (hlen : ∀ sig, parseMethodDescriptor y.desc = some sig → argsL.length = sig.parameters.length)
    (hstack : g.stack = argsL.reverse ++ .ref b :: rest) (hW : 2 * g.monitorRoom + (rest.map fun v => v.category).sum ≤ W9) (hdg : decode c.code g.pc = .ok (.invokevirtual index, 3))
    (hpre : ∀ vm₁, s.WarmedH vm₁ → Pre ⟨T.setVm vm₁, locs, cells, slots⟩ (Value.ref b :: argsL).toArray) :
    (∃ (v : Option Value) (vm₁ : Vm) (B : Pt), s.WarmedH vm₁ ∧ Stand p l e R s m args below meth c B.U B.locs B.cells B.slots ∧ Post ⟨T.setVm vm₁, locs, cells, slots⟩ (Value.ref b :: argsL).toArray v B ∧
      ∀ target, Steps p.tables e below (B.U.setTop { g with pc := g.pc + 3, stack := v.toList ++ rest }) target → Steps p.tables e below (T.setTop g) target) ∨
    (∃ (q : Addr) (vm₁ : Vm) (B : Pt), s.WarmedH vm₁ ∧ Stand p l e R s m args below meth c B.U B.locs B.cells B.slots ∧ PostX ⟨T.setVm vm₁, locs, cells, slots⟩ (Value.ref b :: argsL).toArray q B ∧
      Steps p.tables e below (T.setTop g) ((B.U.setTop { g with stack := rest }).pushFrame (.throwing q))) := by
  obtain ⟨mk, methM, hnamed, hmethM, hstM, habM⟩ := Cond.instanceMethod_spec hinst
  obtain ⟨methM', cM, hmethM', -, -, -, -, -, -, hsigM⟩ := Cond.code_spec hnamed hcode
  cases hmethM.symm.trans hmethM'
  obtain ⟨c2, r2, m2, q1, q2, q3, q4, kP, hkP, hkPi⟩ := Cond.selects_spec hsel
  cases hcls.symm.trans q1
  cases (State.methodFound?_of_named hnamed hy).symm.trans q2
  cases hnamed.symm.trans q3
  have hselP : selectMethod e.platform s.vm cellB.cls mk = .method mk := by rw [Launch.admits_selectMethod X.admits]; exact q4
  obtain ⟨vm₁, X₁, hstep₁⟩ := X.invokevirtual hexec hown hlink hnamed hmethM hstM hkP hkPi hy (a := b) (cell := cellB) hcell
    (fun z h => by rw [h] at hobj; cases hobj) hselP hmethM habM hkP hkPi (g := g) hg (argsL := argsL) (rest := rest) (hlen _ hsigM) hstack hdg
  rcases hK m meth c ⟨T.setVm vm₁, locs, cells, slots⟩ { g with stack := rest } (.invokevirtual index) mk (Value.ref b :: argsL).toArray X₁ hg hsize hdg hW (X₁.named hnamed) (hpre vm₁ X₁.warmed) with ⟨v, B, X', hpost, hsteps⟩ | ⟨q, B, X', hpost, hsteps⟩
  · exact Or.inl ⟨v, vm₁, B, X₁.warmed, X', hpost, fun target h => hstep₁ _ fun acts => by rw [doInvoke_state]; exact hsteps.trans h⟩
  · exact Or.inr ⟨q, vm₁, B, X₁.warmed, X', hpost, hstep₁ _ fun acts => by rw [doInvoke_state]; exact hsteps⟩
theorem vx_callS (X : Stand p l e R s m args below meth c T locs cells slots) (hexec : p.tables.exec = Jvm.exec) {own : String} {index : Nat} {y : MethodName} {bytes : ByteArray} {maxL : Nat} {ret : Option FieldType}
    (hown : s.vm.findClass own = some m.cls) (hlink : (Cond.methodLink own index y).before args s = true) (hstat : (Cond.static y).before args s = true) (hinit : (Cond.initialized y.cls).before args s = true)
    (hcode : (Cond.code y bytes maxL ret).before args s = true) (hy : y.cls ≠ "java/lang/invoke/MethodHandle" ∧ y.cls ≠ "java/lang/invoke/VarHandle")
    {W9 : Nat} {Pre : Pt → Array Value → Prop} {Post : Pt → Array Value → Option Value → Pt → Prop} {PostX : Pt → Array Value → Addr → Pt → Prop} (hK : vx_Back l R p e below s args y 3 W9 Pre Post PostX)
    {g : JFrame} (hg : g.method = m) (hsize : g.locals.size = c.maxLocals) {argsL rest : List Value} (hlen : ∀ sig, parseMethodDescriptor y.desc = some sig → argsL.length = sig.parameters.length)
    (hstack : g.stack = argsL.reverse ++ rest) (hW : 2 * g.monitorRoom + (rest.map fun v => v.category).sum ≤ W9) (hdg : decode c.code g.pc = .ok (.invokestatic index, 3))
    (hpre : ∀ vm₁, s.WarmedH vm₁ → Pre ⟨T.setVm vm₁, locs, cells, slots⟩ argsL.toArray) :
    (∃ (v : Option Value) (vm₁ : Vm) (B : Pt), s.WarmedH vm₁ ∧ Stand p l e R s m args below meth c B.U B.locs B.cells B.slots ∧ Post ⟨T.setVm vm₁, locs, cells, slots⟩ argsL.toArray v B ∧
      ∀ target, Steps p.tables e below (B.U.setTop { g with pc := g.pc + 3, stack := v.toList ++ rest }) target → Steps p.tables e below (T.setTop g) target) ∨
    (∃ (q : Addr) (vm₁ : Vm) (B : Pt), s.WarmedH vm₁ ∧ Stand p l e R s m args below meth c B.U B.locs B.cells B.slots ∧ PostX ⟨T.setVm vm₁, locs, cells, slots⟩ argsL.toArray q B ∧
      Steps p.tables e below (T.setTop g) ((B.U.setTop { g with stack := rest }).pushFrame (.throwing q))) := by
  obtain ⟨mk, hnamed⟩ := Cond.code_named hcode
  obtain ⟨methM, cM, hmethM, -, -, -, -, -, -, hsigM⟩ := Cond.code_spec hnamed hcode
  have hstatic : methM.isStatic = true := Cond.static_spec hnamed hmethM hstat
  obtain ⟨kP, hkP, -⟩ := className_of_methodNamed hnamed
  have hinitP : kP.init = .initialized := Cond.initialized_spec (findClass_of_methodNamed hnamed) hkP hinit
  obtain ⟨vm₁, X₁, hstep₁⟩ := X.invokestatic hexec hown hlink hnamed hmethM hstatic hkP hinitP hy (g := g) hg (argsL := argsL) (rest := rest) (hlen _ hsigM) hstack hdg
  rcases hK m meth c ⟨T.setVm vm₁, locs, cells, slots⟩ { g with stack := rest } (.invokestatic index) mk argsL.toArray X₁ hg hsize hdg hW (X₁.named hnamed) (hpre vm₁ X₁.warmed) with ⟨v, B, X', hpost, hsteps⟩ | ⟨q, B, X', hpost, hsteps⟩
  · exact Or.inl ⟨v, vm₁, B, X₁.warmed, X', hpost, fun target h => hstep₁ _ fun acts => by rw [doInvoke_state]; exact hsteps.trans h⟩
  · exact Or.inr ⟨q, vm₁, B, X₁.warmed, X', hpost, hstep₁ _ fun acts => by rw [doInvoke_state]; exact hsteps⟩
end Calls
theorem vx_cls {s : State} {T : State} {vm₁ : Vm} {E : String} {k : ClassId} (hW : s.WarmedH vm₁) (h : (T.setVm vm₁).vm.findClass E = some k) : s.vm.findClass E = some k := by
  have h1 : vm₁.findClass E = some k := h
  rw [hW.alike.findClass] at h1
  exact h1
/-- the method's frame g, with q thrown over it -/
def vx_W (p : Program) (l : Launch) (e : Env) (R : Room) (s : State) (m : MethodId) (args : Array Value) (below : List Frame) (meth : Method) (c : Code) (H : Heap) (locs : List Loc) (cells slots : Nat) (Q : State → Prop) (g : JFrame) (q : Addr) : Prop :=
  ∀ T : State, T.heap = H → Stand p l e R s m args below meth c T locs cells slots → ∃ t, Steps p.tables e below ((T.setTop g).pushFrame (.throwing q)) t ∧ Q t
def vx_Run (p : Program) (l : Launch) (e : Env) (R : Room) (s : State) (m : MethodId) (args : Array Value) (below : List Frame) (meth : Method) (c : Code) (H : Heap) (locs : List Loc) (cells slots mc ms : Nat) (g : JFrame) (rest : List Value) (Qa : State → Outcome → State → Prop) (XC : String → State → State → Prop) (free : Addr → Prop) : Prop :=
  ∀ T : State, T.heap = H → Stand p l e R s m args below meth c T locs cells slots →
    (∃ (v : Option Value) (st₀ t T' : State) (L : List Loc), st₀.heap = H ∧ Stand p l e R s m args below meth c T' (locs ++ L) (cells + mc) (slots + ms) ∧ (∀ q ∈ L, free q.base) ∧ T'.heap = t.heap ∧ T'.vm = t.vm ∧ Qa st₀ (.returned v) t ∧
      Goes p e below T g T' { g with pc := g.pc + 3, stack := v.toList ++ rest }) ∨
    (∃ (q : Addr) (st₀ t T' : State) (L : List Loc) (E : String) (ce : Cell), st₀.heap = H ∧ Stand p l e R s m args below meth c T' (locs ++ L) (cells + mc) (slots + ms) ∧ (∀ z ∈ L, free z.base) ∧ T'.heap = t.heap ∧ T'.vm = t.vm ∧ XC E st₀ t ∧ t.heap[q]? = some ce ∧ ce.vm = .none ∧ s.vm.findClass E = some ce.cls ∧
      Steps p.tables e below (T.setTop g) ((T'.setTop { g with stack := rest }).pushFrame (.throwing q)))
def vx_X {S : Type} (px : S → Prop) (B : String → S → State → Prop) (A : Nat → Prop) : String → State → State → Prop := fun E st t => ∃ u : S, px u ∧ B E u t ∧ va_F A st t
section Runs
variable {p : Program} {l : Launch} {e : Env} {R : Room} {s : State} {m : MethodId} {args : Array Value} {below : List Frame} {meth : Method} {c : Code} {H : Heap} {locs : List Loc} {cells slots : Nat}
variable {y : MethodName} {bytes cc : ByteArray} {maxL nL mc ms n index : Nat} {ret : Option FieldType} {ws : List Cond} {rm : Room} {Pc : Array Value → State → Prop} {Qc : Array Value → State → Outcome → State → Prop} {XC : String → State → State → Prop} {free : Addr → Prop} {Ts : List Cond} {own C : String} {b : Addr} {As rest : List Value} {g : JFrame}
theorem vx_callBack (cb : CallB R s args own index y bytes maxL ret ws rm mc ms n) (hM : vx_Met l y ws rm Pc Qc XC mc ms free) (hbl : FrameBlind Pc) : vx_Back l R p e below s args y 3 8 (PreOf R mc ms Pc) (PostOf Qc mc ms free) (vx_Post XC mc ms free) := by
  obtain ⟨hrc, hrs, hfr, hlo, hws, hcw, -, hini, -⟩ := cb
  exact vx_back (bytes := bytes) (maxL := maxL) (ret := ret) hM hbl hrc hrs hfr hlo hws hcw (fun a' U hW => word_at hW (Or.inl (by first | rfl | simp [Cond.onTables, Cond.keeps, Cond.steady])) hini)
theorem vx_runV (S : CallFix p m c cc nL s args Ts own) (hM : vx_Met l y ws rm Pc Qc XC mc ms free) (cw : CallW R s args own C index y bytes maxL ret ws rm mc ms n) (hp : PreV s H C b Pc As)
    (hg : g.method = m) (hn : As.length = n) (hsize : g.locals.size = nL) (hstack : g.stack = As.reverse ++ .ref b :: rest) (hW : 2 * g.monitorRoom + (rest.map fun v => v.category).sum ≤ 8) (hdg : decode cc g.pc = .ok (.invokevirtual index, 3)) (hf : cells + mc ≤ R.cells ∧ slots + ms ≤ R.slots) :
    vx_Run p l e R s m args below meth c H locs cells slots mc ms g rest (Qc (Value.ref b :: As).toArray) XC free := by
  have hK : vx_Back l R p e below s args y 3 8 (PreOf R mc ms Pc) (PostOf Qc mc ms free) (vx_Post XC mc ms free) := vx_callBack cw.1 hM hp.1
  obtain ⟨⟨-, -, -, -, -, -, hcode, -, hy, hlen, hl⟩, hin, hse⟩ := cw
  obtain ⟨hx, hb, hml, ho, -⟩ := S
  obtain ⟨-, ⟨cellB, hcB, hoB, hclB⟩, hPc⟩ := hp
  intro T hT X
  rcases vx_callV X hx (C := C) (bytes := bytes) (maxL := maxL) (ret := ret) ho hl hin hse hcode hy hK (by rw [hT]; exact hcB) hoB hclB hg (hsize.trans hml.symm) (argsL := As) (rest := rest) (fun sig h => hn.trans (hlen sig h)) hstack hW (by rw [hb]; exact hdg)
    (fun vm₁ hW₁ => ⟨hf.1, hf.2, hPc (T.setVm vm₁) hT hW₁⟩) with ⟨v, vm₁, ⟨U', l2, c2, s2⟩, hW₁, X', ⟨g', mk, t, L, e1, e2, hq, h1, hL, h2, h3⟩, st⟩ | ⟨q, vm₁, ⟨U', l2, c2, s2⟩, hW₁, X', ⟨g', mk, t, L, E, ce, e1, e2, hq, hce, hcv, hcl, h1, hL, h2, h3⟩, st⟩
  · dsimp only [Pt.U, Pt.locs, Pt.cells, Pt.slots] at X' e1 e2 h1 h2 h3 st
    subst h1; subst h2; subst h3
    exact Or.inl ⟨v, (T.setVm vm₁).calling g' mk (Value.ref b :: As).toArray, t, U', L, hT, X', hL, e1, e2, hq, st⟩
  · dsimp only [Pt.U, Pt.locs, Pt.cells, Pt.slots] at X' e1 e2 h1 h2 h3 st hcl
    subst h1; subst h2; subst h3
    exact Or.inr ⟨q, (T.setVm vm₁).calling g' mk (Value.ref b :: As).toArray, t, U', L, E, ce, hT, X', hL, e1, e2, hq, hce, hcv, vx_cls hW₁ hcl, st⟩
theorem vx_runS (S : CallFix p m c cc nL s args Ts own) (hM : vx_Met l y ws rm Pc Qc XC mc ms free) (cw : CallB R s args own index y bytes maxL ret ws rm mc ms n ∧ (Cond.static y).before args s = true) (hp : PreS s H Pc As)
    (hg : g.method = m) (hn : As.length = n) (hsize : g.locals.size = nL) (hstack : g.stack = As.reverse ++ rest) (hW : 2 * g.monitorRoom + (rest.map fun v => v.category).sum ≤ 8) (hdg : decode cc g.pc = .ok (.invokestatic index, 3)) (hf : cells + mc ≤ R.cells ∧ slots + ms ≤ R.slots) :
    vx_Run p l e R s m args below meth c H locs cells slots mc ms g rest (Qc As.toArray) XC free := by
  have hK : vx_Back l R p e below s args y 3 8 (PreOf R mc ms Pc) (PostOf Qc mc ms free) (vx_Post XC mc ms free) := vx_callBack cw.1 hM hp.1
  obtain ⟨⟨-, -, -, -, -, -, hcode, hini, hy, hlen, hl⟩, hstt⟩ := cw
  obtain ⟨hx, hb, hml, ho, -⟩ := S
  intro T hT X
  rcases vx_callS X hx (bytes := bytes) (maxL := maxL) (ret := ret) ho hl hstt hini hcode hy hK hg (hsize.trans hml.symm) (argsL := As) (rest := rest) (fun sig h => hn.trans (hlen sig h)) hstack hW (by rw [hb]; exact hdg)
    (fun vm₁ hW₁ => ⟨hf.1, hf.2, hp.2 (T.setVm vm₁) hT hW₁⟩) with ⟨v, vm₁, ⟨U', l2, c2, s2⟩, hW₁, X', ⟨g', mk, t, L, e1, e2, hq, h1, hL, h2, h3⟩, st⟩ | ⟨q, vm₁, ⟨U', l2, c2, s2⟩, hW₁, X', ⟨g', mk, t, L, E, ce, e1, e2, hq, hce, hcv, hcl, h1, hL, h2, h3⟩, st⟩
  · dsimp only [Pt.U, Pt.locs, Pt.cells, Pt.slots] at X' e1 e2 h1 h2 h3 st
    subst h1; subst h2; subst h3
    exact Or.inl ⟨v, (T.setVm vm₁).calling g' mk As.toArray, t, U', L, hT, X', hL, e1, e2, hq, st⟩
  · dsimp only [Pt.U, Pt.locs, Pt.cells, Pt.slots] at X' e1 e2 h1 h2 h3 st hcl
    subst h1; subst h2; subst h3
    exact Or.inr ⟨q, (T.setVm vm₁).calling g' mk As.toArray, t, U', L, E, ce, hT, X', hL, e1, e2, hq, hce, hcv, vx_cls hW₁ hcl, st⟩
end Runs
section Rows
variable {p : Program} {l : Launch} {e : Env} {R : Room} {s : State} {m : MethodId} {args : Array Value} {below : List Frame} {meth : Method} {c : Code} {H : Heap} {locs : List Loc} {cells slots : Nat} {Q : State → Prop}
variable {mc ms : Nat} {free : Addr → Prop} {A0 A1 : Nat → Prop} {H0 : Heap} {a : Array Value} {pc : Nat} {ls : Array Slot} {st0 rest : List Value}
theorem vx_keep {st₀ t T' : State} {L : List Loc} (h0 : st₀.heap = H) (e1 : T'.heap = t.heap) (hS : va_S A0 H0 H locs) (hA : ∀ q, q < H.size → A1 q → A0 q) (hf : ∀ q, free q → A0 q) (hL : ∀ q ∈ L, free q.base) (hF : va_F A1 st₀ t) :
    H.size ≤ T'.heap.size ∧ (∀ q : Nat, q < H.size → ¬ A1 q → T'.heap[q]? = H[q]?) ∧ va_S A0 H0 T'.heap (locs ++ L) := by
  obtain ⟨hz, hk⟩ := hF
  rw [h0] at hz hk
  exact ⟨by rw [e1]; exact hz, fun q h1 h2 => by rw [e1]; exact hk q h1 h2,
    ⟨Nat.le_trans hS.1 (by rw [e1]; exact hz), fun q h1 h2 => by rw [e1, hk q (Nat.lt_of_lt_of_le h1 hS.1) (fun z => h2 (hA q (Nat.lt_of_lt_of_le h1 hS.1) z))]; exact hS.2.1 q h1 h2, fun q hq => by
      rcases List.mem_append.mp hq with h | h
      · exact hS.2.2 q h
      · exact hf _ (hL q h)⟩⟩
theorem vx_calli {S SX : Type} {post : Int32 → S → Prop} {px : SX → Prop} {B : S → State → Prop} {BX : String → SX → State → Prop} {AX : Nat → Prop} (hr : vx_Run p l e R s m args below meth c H locs cells slots mc ms (F0 m pc ls st0) rest (va_Qi post B A1 a) (vx_X px BX AX) free) (hS : va_S A0 H0 H locs) (hA : ∀ q, q < H.size → A1 q → A0 q) (hf : ∀ q, free q → A0 q) (hAX : ∀ q, q < H.size → AX q → A0 q)
    (kx : ∀ (E : String) (ce : Cell) (q9 : Addr) (u : SX) (t : State) (H1 : Heap) (locs1 : List Loc), t.heap = H1 → s.vm.Alike t.vm → px u → BX E u t → H.size ≤ H1.size → (∀ q : Nat, q < H.size → ¬ AX q → H1[q]? = H[q]?) → va_S A0 H0 H1 locs1 → H1[q9]? = some ce → ce.vm = .none → s.vm.findClass E = some ce.cls → vx_W p l e R s m args below meth c H1 locs1 (cells + mc) (slots + ms) Q (F0 m pc ls rest) q9)
    (kk : ∀ (r : Int32) (u : S) (t : State) (H1 : Heap) (locs1 : List Loc), t.heap = H1 → s.vm.Alike t.vm → post r u → B u t → H.size ≤ H1.size → (∀ q : Nat, q < H.size → ¬ A1 q → H1[q]? = H[q]?) → va_S A0 H0 H1 locs1 → W p l e R s m args below meth c H1 locs1 (cells + mc) (slots + ms) Q (F0 m (pc + 3) ls (.int r :: rest))) : W p l e R s m args below meth c H locs cells slots Q (F0 m pc ls st0) := by
  intro T hT X
  rcases hr T hT X with ⟨v, st₀, t, T', L, h0, X', hL, e1, e2, ⟨⟨r, u, hv, hp, hb⟩, hF⟩, st⟩ | ⟨q, st₀, t, T', L, E, ce, h0, X', hL, e1, e2, ⟨u, hp, hb, hF⟩, hce, hcv, hcl, st⟩
  · cases hv
    obtain ⟨k1, k2, k3⟩ := vx_keep h0 e1 hS hA hf hL hF
    obtain ⟨t2, a1, b1⟩ := kk r u t T'.heap (locs ++ L) e1.symm (by rw [← e2]; exact X'.warmed.alike) hp hb k1 k2 k3 T' rfl X'
    exact ⟨t2, st t2 a1, b1⟩
  · obtain ⟨k1, k2, k3⟩ := vx_keep h0 e1 hS hAX hf hL hF
    obtain ⟨t2, a1, b1⟩ := kx E ce q u t T'.heap (locs ++ L) e1.symm (by rw [← e2]; exact X'.warmed.alike) hp hb k1 k2 k3 (by rw [e1]; exact hce) hcv hcl T' rfl X'
    exact ⟨t2, st.trans a1, b1⟩
theorem vx_calll {S SX : Type} {post : Int64 → S → Prop} {px : SX → Prop} {B : S → State → Prop} {BX : String → SX → State → Prop} {AX : Nat → Prop} (hr : vx_Run p l e R s m args below meth c H locs cells slots mc ms (F0 m pc ls st0) rest (va_Ql post B A1 a) (vx_X px BX AX) free) (hS : va_S A0 H0 H locs) (hA : ∀ q, q < H.size → A1 q → A0 q) (hf : ∀ q, free q → A0 q) (hAX : ∀ q, q < H.size → AX q → A0 q)
    (kx : ∀ (E : String) (ce : Cell) (q9 : Addr) (u : SX) (t : State) (H1 : Heap) (locs1 : List Loc), t.heap = H1 → s.vm.Alike t.vm → px u → BX E u t → H.size ≤ H1.size → (∀ q : Nat, q < H.size → ¬ AX q → H1[q]? = H[q]?) → va_S A0 H0 H1 locs1 → H1[q9]? = some ce → ce.vm = .none → s.vm.findClass E = some ce.cls → vx_W p l e R s m args below meth c H1 locs1 (cells + mc) (slots + ms) Q (F0 m pc ls rest) q9)
    (kk : ∀ (r : Int64) (u : S) (t : State) (H1 : Heap) (locs1 : List Loc), t.heap = H1 → s.vm.Alike t.vm → post r u → B u t → H.size ≤ H1.size → (∀ q : Nat, q < H.size → ¬ A1 q → H1[q]? = H[q]?) → va_S A0 H0 H1 locs1 → W p l e R s m args below meth c H1 locs1 (cells + mc) (slots + ms) Q (F0 m (pc + 3) ls (.long r :: rest))) : W p l e R s m args below meth c H locs cells slots Q (F0 m pc ls st0) := by
  intro T hT X
  rcases hr T hT X with ⟨v, st₀, t, T', L, h0, X', hL, e1, e2, ⟨⟨r, u, hv, hp, hb⟩, hF⟩, st⟩ | ⟨q, st₀, t, T', L, E, ce, h0, X', hL, e1, e2, ⟨u, hp, hb, hF⟩, hce, hcv, hcl, st⟩
  · cases hv
    obtain ⟨k1, k2, k3⟩ := vx_keep h0 e1 hS hA hf hL hF
    obtain ⟨t2, a1, b1⟩ := kk r u t T'.heap (locs ++ L) e1.symm (by rw [← e2]; exact X'.warmed.alike) hp hb k1 k2 k3 T' rfl X'
    exact ⟨t2, st t2 a1, b1⟩
  · obtain ⟨k1, k2, k3⟩ := vx_keep h0 e1 hS hAX hf hL hF
    obtain ⟨t2, a1, b1⟩ := kx E ce q u t T'.heap (locs ++ L) e1.symm (by rw [← e2]; exact X'.warmed.alike) hp hb k1 k2 k3 (by rw [e1]; exact hce) hcv hcl T' rfl X'
    exact ⟨t2, st.trans a1, b1⟩
theorem vx_callf {S SX : Type} {post : UInt32 → S → Prop} {px : SX → Prop} {B : S → State → Prop} {BX : String → SX → State → Prop} {AX : Nat → Prop} (hr : vx_Run p l e R s m args below meth c H locs cells slots mc ms (F0 m pc ls st0) rest (va_Qf post B A1 a) (vx_X px BX AX) free) (hS : va_S A0 H0 H locs) (hA : ∀ q, q < H.size → A1 q → A0 q) (hf : ∀ q, free q → A0 q) (hAX : ∀ q, q < H.size → AX q → A0 q)
    (kx : ∀ (E : String) (ce : Cell) (q9 : Addr) (u : SX) (t : State) (H1 : Heap) (locs1 : List Loc), t.heap = H1 → s.vm.Alike t.vm → px u → BX E u t → H.size ≤ H1.size → (∀ q : Nat, q < H.size → ¬ AX q → H1[q]? = H[q]?) → va_S A0 H0 H1 locs1 → H1[q9]? = some ce → ce.vm = .none → s.vm.findClass E = some ce.cls → vx_W p l e R s m args below meth c H1 locs1 (cells + mc) (slots + ms) Q (F0 m pc ls rest) q9)
    (kk : ∀ (r : UInt32) (u : S) (t : State) (H1 : Heap) (locs1 : List Loc), t.heap = H1 → s.vm.Alike t.vm → post r u → B u t → H.size ≤ H1.size → (∀ q : Nat, q < H.size → ¬ A1 q → H1[q]? = H[q]?) → va_S A0 H0 H1 locs1 → W p l e R s m args below meth c H1 locs1 (cells + mc) (slots + ms) Q (F0 m (pc + 3) ls (.float r :: rest))) : W p l e R s m args below meth c H locs cells slots Q (F0 m pc ls st0) := by
  intro T hT X
  rcases hr T hT X with ⟨v, st₀, t, T', L, h0, X', hL, e1, e2, ⟨⟨r, u, hv, hp, hb⟩, hF⟩, st⟩ | ⟨q, st₀, t, T', L, E, ce, h0, X', hL, e1, e2, ⟨u, hp, hb, hF⟩, hce, hcv, hcl, st⟩
  · cases hv
    obtain ⟨k1, k2, k3⟩ := vx_keep h0 e1 hS hA hf hL hF
    obtain ⟨t2, a1, b1⟩ := kk r u t T'.heap (locs ++ L) e1.symm (by rw [← e2]; exact X'.warmed.alike) hp hb k1 k2 k3 T' rfl X'
    exact ⟨t2, st t2 a1, b1⟩
  · obtain ⟨k1, k2, k3⟩ := vx_keep h0 e1 hS hAX hf hL hF
    obtain ⟨t2, a1, b1⟩ := kx E ce q u t T'.heap (locs ++ L) e1.symm (by rw [← e2]; exact X'.warmed.alike) hp hb k1 k2 k3 (by rw [e1]; exact hce) hcv hcl T' rfl X'
    exact ⟨t2, st.trans a1, b1⟩
theorem vx_calld {S SX : Type} {post : UInt64 → S → Prop} {px : SX → Prop} {B : S → State → Prop} {BX : String → SX → State → Prop} {AX : Nat → Prop} (hr : vx_Run p l e R s m args below meth c H locs cells slots mc ms (F0 m pc ls st0) rest (va_Qd post B A1 a) (vx_X px BX AX) free) (hS : va_S A0 H0 H locs) (hA : ∀ q, q < H.size → A1 q → A0 q) (hf : ∀ q, free q → A0 q) (hAX : ∀ q, q < H.size → AX q → A0 q)
    (kx : ∀ (E : String) (ce : Cell) (q9 : Addr) (u : SX) (t : State) (H1 : Heap) (locs1 : List Loc), t.heap = H1 → s.vm.Alike t.vm → px u → BX E u t → H.size ≤ H1.size → (∀ q : Nat, q < H.size → ¬ AX q → H1[q]? = H[q]?) → va_S A0 H0 H1 locs1 → H1[q9]? = some ce → ce.vm = .none → s.vm.findClass E = some ce.cls → vx_W p l e R s m args below meth c H1 locs1 (cells + mc) (slots + ms) Q (F0 m pc ls rest) q9)
    (kk : ∀ (r : UInt64) (u : S) (t : State) (H1 : Heap) (locs1 : List Loc), t.heap = H1 → s.vm.Alike t.vm → post r u → B u t → H.size ≤ H1.size → (∀ q : Nat, q < H.size → ¬ A1 q → H1[q]? = H[q]?) → va_S A0 H0 H1 locs1 → W p l e R s m args below meth c H1 locs1 (cells + mc) (slots + ms) Q (F0 m (pc + 3) ls (.double r :: rest))) : W p l e R s m args below meth c H locs cells slots Q (F0 m pc ls st0) := by
  intro T hT X
  rcases hr T hT X with ⟨v, st₀, t, T', L, h0, X', hL, e1, e2, ⟨⟨r, u, hv, hp, hb⟩, hF⟩, st⟩ | ⟨q, st₀, t, T', L, E, ce, h0, X', hL, e1, e2, ⟨u, hp, hb, hF⟩, hce, hcv, hcl, st⟩
  · cases hv
    obtain ⟨k1, k2, k3⟩ := vx_keep h0 e1 hS hA hf hL hF
    obtain ⟨t2, a1, b1⟩ := kk r u t T'.heap (locs ++ L) e1.symm (by rw [← e2]; exact X'.warmed.alike) hp hb k1 k2 k3 T' rfl X'
    exact ⟨t2, st t2 a1, b1⟩
  · obtain ⟨k1, k2, k3⟩ := vx_keep h0 e1 hS hAX hf hL hF
    obtain ⟨t2, a1, b1⟩ := kx E ce q u t T'.heap (locs ++ L) e1.symm (by rw [← e2]; exact X'.warmed.alike) hp hb k1 k2 k3 (by rw [e1]; exact hce) hcv hcl T' rfl X'
    exact ⟨t2, st.trans a1, b1⟩
theorem vx_callv {S SX : Type} {post : S → Prop} {px : SX → Prop} {B : S → State → Prop} {BX : String → SX → State → Prop} {AX : Nat → Prop} (hr : vx_Run p l e R s m args below meth c H locs cells slots mc ms (F0 m pc ls st0) rest (va_Qv post B A1 a) (vx_X px BX AX) free) (hS : va_S A0 H0 H locs) (hA : ∀ q, q < H.size → A1 q → A0 q) (hf : ∀ q, free q → A0 q) (hAX : ∀ q, q < H.size → AX q → A0 q)
    (kx : ∀ (E : String) (ce : Cell) (q9 : Addr) (u : SX) (t : State) (H1 : Heap) (locs1 : List Loc), t.heap = H1 → s.vm.Alike t.vm → px u → BX E u t → H.size ≤ H1.size → (∀ q : Nat, q < H.size → ¬ AX q → H1[q]? = H[q]?) → va_S A0 H0 H1 locs1 → H1[q9]? = some ce → ce.vm = .none → s.vm.findClass E = some ce.cls → vx_W p l e R s m args below meth c H1 locs1 (cells + mc) (slots + ms) Q (F0 m pc ls rest) q9)
    (kk : ∀ (u : S) (t : State) (H1 : Heap) (locs1 : List Loc), t.heap = H1 → s.vm.Alike t.vm → post u → B u t → H.size ≤ H1.size → (∀ q : Nat, q < H.size → ¬ A1 q → H1[q]? = H[q]?) → va_S A0 H0 H1 locs1 → W p l e R s m args below meth c H1 locs1 (cells + mc) (slots + ms) Q (F0 m (pc + 3) ls (rest))) : W p l e R s m args below meth c H locs cells slots Q (F0 m pc ls st0) := by
  intro T hT X
  rcases hr T hT X with ⟨v, st₀, t, T', L, h0, X', hL, e1, e2, ⟨⟨u, hv, hp, hb⟩, hF⟩, st⟩ | ⟨q, st₀, t, T', L, E, ce, h0, X', hL, e1, e2, ⟨u, hp, hb, hF⟩, hce, hcv, hcl, st⟩
  · cases hv
    obtain ⟨k1, k2, k3⟩ := vx_keep h0 e1 hS hA hf hL hF
    obtain ⟨t2, a1, b1⟩ := kk u t T'.heap (locs ++ L) e1.symm (by rw [← e2]; exact X'.warmed.alike) hp hb k1 k2 k3 T' rfl X'
    exact ⟨t2, st t2 a1, b1⟩
  · obtain ⟨k1, k2, k3⟩ := vx_keep h0 e1 hS hAX hf hL hF
    obtain ⟨t2, a1, b1⟩ := kx E ce q u t T'.heap (locs ++ L) e1.symm (by rw [← e2]; exact X'.warmed.alike) hp hb k1 k2 k3 (by rw [e1]; exact hce) hcv hcl T' rfl X'
    exact ⟨t2, st.trans a1, b1⟩
/-- caught by the row x of this method's table; the rows ahead don't take it -/
theorem vx_catch {own name : String} {E : String} {ce : Cell} {q : Addr} (hown : s.vm.findClass own = some m.cls) (pre : List ExceptionTableEntry) (x : ExceptionTableEntry) (suf : List ExceptionTableEntry) (hsplit : c.exceptionTable.toList = pre ++ x :: suf)
    (hpass : ∀ z ∈ pre, covers z pc = false ∨ (z.catchType ≠ 0 ∧ ∃ nm : String, (Cond.classLink own z.catchType nm).before args s = true ∧ va_Nc E nm s)) (hx : covers x pc = true) (h0 : x.catchType ≠ 0)
    (hlink : (Cond.classLink own x.catchType name).before args s = true) (hcast : (Cond.castable E name).before args s = true) (hcell : H[q]? = some ce) (hv : ce.vm = .none) (hcl : s.vm.findClass E = some ce.cls)
    (kk : W p l e R s m args below meth c H locs cells slots Q (F0 m x.handlerPc ls [.ref q])) : vx_W p l e R s m args below meth c H locs cells slots Q (F0 m pc ls rest) q := by
  intro T hT X
  have hpl : e.platform.magicAccessors = ({} : Platform).magicAccessors := by rw [X.admits.platform]
  obtain ⟨c3, c4, hc3, hc4, hasg⟩ := Cond.castable_spec hcast
  cases Option.some.inj (hc3.symm.trans hcl)
  obtain ⟨c5, hc5, hcl5⟩ := Cond.classLink_spec hown hlink e.platform hpl
  cases Option.some.inj (hc4.symm.trans hc5)
  obtain ⟨vm', X', st⟩ := X.thenCaughtThrough q (g := F0 m pc ls rest) rfl (Steps.refl _) (by rw [hT]; exact hcell) (by rw [hv]; rfl) (by obtain ⟨k9, h9, -⟩ := Vm.findClass_spec hcl; exact ⟨k9, h9⟩) pre x suf hsplit
    (fun z hz => by
      rcases hpass z hz with h | ⟨hz0, nm, hl1, hn1⟩
      · exact Or.inl h
      · obtain ⟨c6, hc6, hcl6⟩ := Cond.classLink_spec hown hl1 e.platform hpl
        obtain ⟨a8, b8, h1, h2, h3⟩ := hn1
        cases Option.some.inj (h1.symm.trans hcl)
        cases Option.some.inj (h2.symm.trans hc6)
        exact Or.inr ⟨hz0, _, hcl6, h3⟩) hx (Or.inr ⟨h0, c4, hcl5, hasg⟩)
  obtain ⟨t, a1, b1⟩ := kk (T.setVm vm') hT X'
  exact ⟨t, st.trans a1, b1⟩
end Rows
section Ends
variable {p : Program} {l : Launch} {e : Env} {R : Room} {s : State} {m : MethodId} {args : Array Value} {below : List Frame} {meth : Method} {c : Code} {H : Heap} {locs : List Loc} {cells slots : Nat} {Q : State → Prop}
variable {mc ms : Nat} {free : Addr → Prop} {A0 A1 : Nat → Prop} {H0 : Heap} {a : Array Value} {ls : Array Slot} {st0 rest : List Value}
variable {Qc : Array Value → State → Outcome → State → Prop} {XC : String → State → State → Prop}
/-- what a body that may throw owes at its end -/
def vx_MQ (below : List Frame) (Qc : Array Value → State → Outcome → State → Prop) (XC : String → State → State → Prop) (a : Array Value) (s : State) (mc ms : Nat) (free : Addr → Prop) : State → Prop := fun t =>
  ∃ o, t.status = .running ∧ Ended t below o ∧ vx_Q Qc XC mc ms free a s o t
theorem vx_ret {g : JFrame} {mc ms : Nat} (k : W p l e R s m args below meth c H locs cells slots (MQ below Qc args s mc ms free) g) : W p l e R s m args below meth c H locs cells slots (vx_MQ below Qc XC args s mc ms free) g := by
  intro T hT X
  obtain ⟨t, a1, o, b1, b2, b3, b4⟩ := k T hT X
  exact ⟨t, a1, o, b1, b2, Or.inl ⟨b3, b4⟩⟩
/-- not caught here: it goes on to the caller -/
theorem vx_widen {g : JFrame} {q : Addr} {k n : Nat} (h1 : cells ≤ k) (h2 : slots ≤ n) (kk : vx_W p l e R s m args below meth c H locs k n Q g q) : vx_W p l e R s m args below meth c H locs cells slots Q g q := fun T hT X => kk T hT (stand_widen X h1 h2)
theorem vx_out {pc : Nat} {E : String} {ce : Cell} {q : Addr} {mc ms : Nat} (hout : ∀ x ∈ c.exceptionTable.toList, covers x pc = false) (hlocks : meth.locks = false) (hcell : H[q]? = some ce) (hv : ce.vm = .none) (hcl : s.vm.findClass E = some ce.cls)
    (hx : ∀ t : State, t.heap = H → s.vm.Alike t.vm → XC E s t) (hf : ∀ z ∈ locs, free z.base) (hc : cells ≤ mc) (hs : slots ≤ ms) :
    vx_W p l e R s m args below meth c H locs cells slots (vx_MQ below Qc XC args s mc ms free) (F0 m pc ls rest) q := by
  intro T hT X
  obtain ⟨st1, hrun, hend, hW, hsm⟩ := X.leaveThrown q (g := F0 m pc ls rest) rfl rfl rfl hout hlocks
  have hcell9 : (T.setFrames (.throwing q :: below)).heap[q]? = some ce := by
    show T.heap[q]? = some ce
    rw [hT]; exact hcell
  exact ⟨_, st1, .threw q, hrun, hend, Or.inr ⟨q, rfl, E, ce, locs, hx _ hT hW.alike, hcell9, hv, hcl, hW, hsm.mono hc hs, hf⟩⟩
theorem vx_frame {U : State} {k n : Nat} (h : s.sameButNew ({ U with vm := s.vm } : State) locs k n) : s.heap.size ≤ U.heap.size ∧ ∀ q : Nat, q < s.heap.size → (∀ z ∈ locs, z.base ≠ q) → U.heap[q]? = s.heap[q]? := by
  obtain ⟨-, h2, -, -, -, h6⟩ := h
  refine ⟨h2, fun q hq hz => ?_⟩
  obtain ⟨c9, e1, e2, e3, e4⟩ := h6 q _ (Array.getElem?_eq_getElem hq)
  have hs : c9.slots = (s.heap[q]).slots := Array.ext_getElem? fun i => e4 i fun hm => hz _ hm rfl
  have h9 : c9 = s.heap[q] := by
    rw [hs] at e2
    exact e2
  have e5 : U.heap[q]? = some c9 := e1
  rw [e5, h9, Array.getElem?_eq_getElem hq]
/-- the words of a throw but the four that speak of the heap -/
def vx_no (w : Cond) : Bool := decide (w ≠ .isRef (.static Bundle.tN "UNASSIGNED_STACK" Bundle.steD)) && decide (w ≠ .isRef (.static Bundle.tN "SUPPRESSED_SENTINEL" Bundle.listD)) && decide (w ≠ .laysStatic Bundle.tN "UNASSIGNED_STACK" Bundle.steD) && decide (w ≠ .laysStatic Bundle.tN "SUPPRESSED_SENTINEL" Bundle.listD)
def vx_at0 (own : String) (ic : Nat) (X : String) (names : List String) : List Cond := (Bundle.ownAtoms0 own ic X names).filter vx_no
def vx_atS (own : String) (ic : Nat) (X : String) (names : List String) : List Cond := (Bundle.ownAtoms own ic X names).filter vx_no
/-- a word that the tables alone decide, or a good one -/
def vx_ot (w : Cond) : Bool := w.onTables || goodWord w
theorem vx_ot_at {args a' : Array Value} {s U : State} {w : Cond} (hW : s.WarmedH U.vm) (hvm : s.vm = U.vm) (hg : vx_ot w = true) (h : w.before args s = true) : w.before a' U = true := by
  simp only [vx_ot, Bool.or_eq_true] at hg
  rcases hg with hg | hg
  · exact va_tabs hg hvm h
  · exact word_at hW (good_of_word hg) h
/-- a list's words: the good ones out of the method's own list, the others by premises of their own -/
theorem vx_hat {args : Array Value} {s : State} {L B : List Cond} (h1 : ∀ w ∈ L.filter goodWord, w.before args s = true) (h2 : ∀ w ∈ L.filter (fun w => !goodWord w), w ∈ B) (h3 : ∀ w ∈ B, w.before args s = true) : ∀ w ∈ L, w.before args s = true := by
  intro w hw
  by_cases g : goodWord w = true
  · exact h1 w (List.mem_filter.mpr ⟨hw, g⟩)
  · refine h3 w (h2 w (List.mem_filter.mpr ⟨hw, ?_⟩))
    show (!goodWord w) = true
    cases hgw : goodWord w
    · rfl
    · exact absurd hgw g
theorem vx_c {args : Array Value} {s : State} {w : Cond} {B : List Cond} (h : w.before args s = true) (t : ∀ w ∈ B, w.before args s = true) : ∀ w' ∈ w :: B, w'.before args s = true := fun w' h' => (List.mem_cons.mp h').elim (fun e => by rw [e]; exact h) (t w')
theorem vx_n {args : Array Value} {s : State} : ∀ w ∈ ([] : List Cond), w.before args s = true := fun _ h => nomatch h
theorem vx_own {args : Array Value} {s : State} {L : List Cond} (h1 : ∀ w ∈ L.filter vx_no, w.before args s = true)
    (hU : (Cond.isRef (.static Bundle.tN "UNASSIGNED_STACK" Bundle.steD)).before args s = true) (hN : (Cond.isRef (.static Bundle.tN "SUPPRESSED_SENTINEL" Bundle.listD)).before args s = true)
    (lU : (Cond.laysStatic Bundle.tN "UNASSIGNED_STACK" Bundle.steD).before args s = true) (lN : (Cond.laysStatic Bundle.tN "SUPPRESSED_SENTINEL" Bundle.listD).before args s = true) : ∀ w ∈ L, w.before args s = true := by
  intro w hw
  by_cases e1 : w = .isRef (.static Bundle.tN "UNASSIGNED_STACK" Bundle.steD)
  · rw [e1]; exact hU
  · by_cases e2 : w = .isRef (.static Bundle.tN "SUPPRESSED_SENTINEL" Bundle.listD)
    · rw [e2]; exact hN
    · by_cases e3 : w = .laysStatic Bundle.tN "UNASSIGNED_STACK" Bundle.steD
      · rw [e3]; exact lU
      · by_cases e4 : w = .laysStatic Bundle.tN "SUPPRESSED_SENTINEL" Bundle.listD
        · rw [e4]; exact lN
        · exact h1 w (List.mem_filter.mpr ⟨hw, by unfold vx_no; rw [decide_eq_true e1, decide_eq_true e2, decide_eq_true e3, decide_eq_true e4]; rfl⟩)
/-- where a static field lies, its class's statics cell in H -/
def vx_L (C n d : String) (A : Nat → Prop) (U : State) (H : Heap) : Prop := ∃ (c : ClassId) (k : Class) (i : Nat) (f : Field) (a : Nat) (cell : Cell), U.vm.findClass C = some c ∧ U.fieldFound? C n d = some (c, k, i, f) ∧ f.isStatic = true ∧ k.statics = some a ∧ H[a]? = some cell ∧ cell.vm.isStatics = true ∧ cell.cls = c ∧ f.slot < cell.slots.size ∧ k.staticTypes[f.slot]? = some f.type ∧ ¬ A a
theorem vx_L.moved {C n d : String} {A : Nat → Prop} {u U : State} {H : Heap} (hvm : u.vm.Alike U.vm) (h : vx_L C n d A u H) : vx_L C n d A U H := by
  obtain ⟨c, k, i, f, a, cell, h1, h2, h3, h4, h5, h6, h7, h8, h9, h10⟩ := h
  obtain ⟨k', hi', he⟩ := State.fieldFound?_setVm hvm h2
  exact ⟨c, k', i, f, a, cell, by rw [hvm.findClass]; exact h1, hi', h3, by rw [he]; exact h4, h5, h6, h7, h8, by rw [he]; exact h9, h10⟩
theorem vx_L.kept {C n d : String} {A : Nat → Prop} {U : State} {H H1 : Heap} (h : vx_L C n d A U H) (hq : ∀ a : Nat, a < H.size → ¬ A a → H1[a]? = H[a]?) : vx_L C n d A U H1 := by
  obtain ⟨c, k, i, f, a, cell, h1, h2, h3, h4, h5, h6, h7, h8, h9, h10⟩ := h
  exact ⟨c, k, i, f, a, cell, h1, h2, h3, h4, by rw [hq a (Array.getElem?_eq_some_iff.mp h5).1 h10]; exact h5, h6, h7, h8, h9, h10⟩
theorem vx_L.narrow {C n d : String} {A B : Nat → Prop} {U : State} {H : Heap} (h : vx_L C n d A U H) (hAB : ∀ q, B q → A q) : vx_L C n d B U H := by
  obtain ⟨c, k, i, f, a, cell, h1, h2, h3, h4, h5, h6, h7, h8, h9, h10⟩ := h
  exact ⟨c, k, i, f, a, cell, h1, h2, h3, h4, h5, h6, h7, h8, h9, fun z => h10 (hAB _ z)⟩
theorem vx_L.word {C n d : String} {A : Nat → Prop} {s : State} {args : Array Value} (h : vx_L C n d A s s.heap) : (Cond.laysStatic C n d).before args s = true := by
  obtain ⟨c, k, i, f, a, cell, h1, h2, h3, h4, h5, h6, h7, h8, h9, -⟩ := h
  show (Cond.laysStatic C n d).holds args s none s [] = true
  exact Cond.laysStatic_of h1 h2 h3 h4 h5 h6 h7 h8 h9
/-- .. and what it holds: null or some reference -/
def vx_Zq (C n d : String) (A : Nat → Prop) (U : State) (H : Heap) : Prop := va_Zq C n d A U H ∧ vx_L C n d A U H
theorem vx_Zq.moved {C n d : String} {A : Nat → Prop} {u U : State} {H : Heap} (hvm : u.vm.Alike U.vm) (h : vx_Zq C n d A u H) : vx_Zq C n d A U H := ⟨va_Zq.moved hvm h.1, vx_L.moved hvm h.2⟩
theorem vx_Zq.kept {C n d : String} {A : Nat → Prop} {U : State} {H H1 : Heap} (h : vx_Zq C n d A U H) (hq : ∀ a : Nat, a < H.size → ¬ A a → H1[a]? = H[a]?) : vx_Zq C n d A U H1 := ⟨va_Zq.kept h.1 hq, vx_L.kept h.2 hq⟩
theorem vx_Zq.narrow {C n d : String} {A B : Nat → Prop} {U : State} {H : Heap} (h : vx_Zq C n d A U H) (hAB : ∀ q, B q → A q) : vx_Zq C n d B U H := ⟨va_Zq.narrow h.1 hAB, vx_L.narrow h.2 hAB⟩
theorem vx_Zqof {args : Array Value} {s : State} {C n d : String} {A : Nat → Prop} (hl : (Cond.laysStatic C n d).before args s = true) (hini : (Cond.initialized C).before args s = true) (h : (Cond.isRef (.static C n d)).before args s = true) (hA : ∀ a : Nat, a < s.heap.size → ¬ A a) : vx_Zq C n d A s s.heap := by
  refine ⟨va_Zqof hl hini h hA, ?_⟩
  obtain ⟨c, k, i, f, a, cell, h1, h2, h3, h4, h5, h6, h7, h8, h9⟩ := Cond.laysStatic_spec hl
  exact ⟨c, k, i, f, a, cell, h1, h2, h3, h4, h5, h6, h7, h8, h9, hA a (Array.getElem?_eq_some_iff.mp h5).1⟩
theorem vx_isRef {C n d : String} {v : Value} {A : Nat → Prop} {s : State} {args : Array Value} (h : va_Z C n d v A s s.heap) (hv : v.isRef = true) : (Cond.isRef (.static C n d)).before args s = true := by
  obtain ⟨cf, kf, fi, f, a, cell, h1, h2, h3, h4, h5, h6, h7, -⟩ := h
  have he : (Term.static C n d).eval args s none [] s = some v := by
    simp [Term.eval, State.fieldNamed?, h1, h2, h4, h5, h6, h7]
  simp only [Cond.before, Cond.holds, Cond.value, he]
  cases v <;> simp_all [Value.isRef]
theorem vx_isRefq {C n d : String} {A : Nat → Prop} {s : State} {args : Array Value} (h : va_Zq C n d A s s.heap) : (Cond.isRef (.static C n d)).before args s = true := by
  rcases h with h | ⟨t, h⟩
  · exact vx_isRef h rfl
  · exact vx_isRef h rfl
/-- the same frame, seen from here: as if the method were called anew in this heap -/
theorem vx_rebase {T : State} (X : Stand p l e R s m args below meth c T locs cells slots) {R' : Room} (hf : R'.frames ≤ R.frames) (hl : R'.locals ≤ R.locals) (hc : cells + R'.cells ≤ R.cells) (hs : slots + R'.slots ≤ R.slots) :
    Stand p l e R' ((T.setVm s.vm).setFrames (.invoking m args :: below)) m args below meth c T [] 0 0 := by
  have htop : (T.setVm s.vm).topJava?.isSome := X.here.top
  have hF : ((T.setVm s.vm).setFrames (.invoking m args :: below)).frames = .invoking m args :: below := State.frames_setFrames _ (State.cur_lt_of_top htop)
  obtain ⟨g₀, hg0⟩ := Option.isSome_iff_exists.mp htop
  obtain ⟨r, hr⟩ := State.topJava?_eq_some.mp hg0
  have hl9 : e.platform.stackLimits (T.setVm s.vm).me = e.platform.stackLimits s.me := X.limits
  have hb9 : (T.setVm s.vm).me.stackBytes = s.me.stackBytes := X.bytes
  refine ⟨X.admits, X.cas, X.clock, hF, ?_, X.hears, X.method, X.code, X.here, X.tail, X.warmed, ?_, ?_, ?_⟩
  · have h := X.room
    have hU : ((T.setVm s.vm).setFrames (.invoking m args :: below)).localsInUse = s.localsInUse := by
      rw [State.localsInUse_invoking hF (meth := meth) (c := c) X.method X.code, State.localsInUse_invoking X.frames X.method X.code]
    simp only [State.hasRoom, Bool.and_eq_true, decide_eq_true_eq] at h ⊢
    obtain ⟨⟨⟨⟨h1, h2, h3, h4, h5, h6⟩, h7⟩, h8⟩, h9⟩ := h
    rw [X.frames, List.length_cons] at h2 h3
    have q1 := X.heapSize
    have q2 := X.used
    simp only [hF, hU, List.length_cons, State.stackLimits_setFrames, State.stackBytes_setFrames, hl9, hb9]
    refine ⟨⟨⟨⟨by omega, by omega, by omega, by omega, by omega, h6⟩, ?_⟩, ?_⟩, X.book⟩
    · show T.heap.size + R'.cells ≤ e.platform.maxCells
      omega
    · show T.slotsUsed + R'.slots ≤ e.platform.maxSlots
      omega
  · rw [State.stackLimits_setFrames]; rfl
  · rw [State.stackBytes_setFrames]; rfl
  · refine ⟨?_, Nat.le_refl _, Nat.le_refl _, ?_, ?_, fun a c9 h9 => ⟨c9, h9, rfl, rfl, fun _ _ => rfl⟩⟩
    · obtain ⟨t, ht, -⟩ := State.frames_cons hr
      show T.setVm s.vm = { ((T.setVm s.vm).setFrames (.invoking m args :: below)).setFrames (T.setVm s.vm).frames with heap := T.heap, slotsUsed := T.slotsUsed }
      rw [State.setFrames_setFrames, State.setFrames_self ht]
      rfl
    · show T.slotsUsed = T.slotsUsed + ((T.heap.toList.drop T.heap.size).map (·.slots.size)).sum
      rw [List.drop_eq_nil_of_le (Nat.le_of_eq Array.length_toList)]
      rfl
    · show ((T.heap.toList.drop T.heap.size).map (·.slots.size)).sum ≤ 0
      rw [List.drop_eq_nil_of_le (Nat.le_of_eq Array.length_toList)]
      exact Nat.le_refl _
/-- 'throw new E()': new; dup; invokespecial; athrow -/
theorem vx_throw0 {cc : ByteArray} {pc : Nat} (hexec : p.tables.exec = Jvm.exec) (hb : c.code = cc) (hl : l.stackTraces = false) {own cls : String} {names : List String} {ik ic mc ms : Nat} {A : Nat → Prop}
    (hown : s.vm.findClass own = some m.cls) (hcls : Bundle.fit cls = true) (hnames : ∀ n ∈ names, Bundle.fit n = true)
    (hk : (Cond.classLink own ik cls).before args s = true) (hini : (Cond.initialized cls).before args s = true) (hat : ∀ w ∈ vx_at0 own ic cls names, w.before args s = true)
    (hgood : ∀ w ∈ Cond.classLink own ik cls :: Cond.initialized cls :: vx_at0 own ic cls names, vx_ot w = true)
    (hU : vx_Zq Bundle.tN "UNASSIGNED_STACK" Bundle.steD A s s.heap) (hN : vx_Zq Bundle.tN "SUPPRESSED_SENTINEL" Bundle.listD A s s.heap) (hS : va_S A s.heap H locs) (hsize : ls.size = c.maxLocals)
    (d0 : decode cc pc = .ok (.new ik, 3)) (d3 : decode cc (pc + 3) = .ok (.dup, 1)) (d4 : decode cc (pc + 4) = .ok (.invokespecial ic, 3)) (d7 : decode cc (pc + 7) = .ok (.athrow, 1))
    (hout : ∀ x ∈ c.exceptionTable.toList, covers x (pc + 7) = false)
    (hRframes : names.length + 3 < R.frames) (hRlocals : (rest.map fun v => v.category).sum + (13 * (names.length + 1) + 42) ≤ R.locals) (hRcells : cells + 1 ≤ R.cells) (hRslots : slots + 6 ≤ R.slots) (hlocks : meth.locks = false)
    (hx : ∀ t : State, s.vm.Alike t.vm → H.size ≤ t.heap.size → (∀ q : Nat, q < H.size → t.heap[q]? = H[q]?) → XC cls s t)
    (hf : ∀ z ∈ locs, free z.base) (hc : cells + 1 ≤ mc) (hs : slots + 6 ≤ ms) :
    W p l e R s m args below meth c H locs cells slots (vx_MQ below Qc XC args s mc ms free) (F0 m pc ls rest) := by
  intro T hT X
  have htr : e.platform.stackTraces = false := (show e.platform.stackTraces = l.stackTraces by rw [X.admits.platform]).trans hl
  have Y := vx_rebase X (R' := { frames := R.frames, locals := R.locals, cells := 1, slots := 6 }) (Nat.le_refl _) (Nat.le_refl _) hRcells hRslots
  obtain ⟨s', hA⟩ : ∃ z, z = (T.setVm s.vm).setFrames (.invoking m args :: below) := ⟨_, rfl⟩
  rw [← hA] at Y
  have hvm : s'.vm = s.vm := by rw [hA]; rfl
  have hhp : s'.heap = H := by rw [hA]; exact hT
  have hW0 : s.WarmedH s'.vm := by rw [hvm]; exact State.WarmedH.refl s
  have hat' : ∀ w ∈ vx_at0 own ic cls names, w.before args s' = true := fun w hw => vx_ot_at hW0 hvm.symm (hgood w (List.mem_cons_of_mem _ (List.mem_cons_of_mem _ hw))) (hat w hw)
  have hk' : (Cond.classLink own ik cls).before args s' = true := vx_ot_at hW0 hvm.symm (hgood _ List.mem_cons_self) hk
  have hini' : (Cond.initialized cls).before args s' = true := vx_ot_at hW0 hvm.symm (hgood _ (List.mem_cons_of_mem _ List.mem_cons_self)) hini
  have hU' : vx_Zq Bundle.tN "UNASSIGNED_STACK" Bundle.steD A s' s'.heap := by rw [hhp]; exact vx_Zq.moved hW0.alike (hU.kept hS.2.1)
  have hN' : vx_Zq Bundle.tN "SUPPRESSED_SENTINEL" Bundle.listD A s' s'.heap := by rw [hhp]; exact vx_Zq.moved hW0.alike (hN.kept hS.2.1)
  have h : ∀ w ∈ Bundle.ownAtoms0 own ic cls names, w.before args s' = true := vx_own hat' (vx_isRefq hU'.1) (vx_isRefq hN'.1) hU'.2.word hN'.2.word
  have hown' : s'.vm.findClass own = some m.cls := by rw [hvm]; exact hown
  have hins : (Cond.instantiable cls 6).before args s' = true := h _ (by simp [Bundle.ownAtoms0])
  obtain ⟨vm₁, cX, kX, hfX, hkX, -, -, X₁, st1⟩ := Y.newCold hexec (own := own) (C := cls) (index := ik) (n := 6) hown' hk' hins hini'
    (g := F0 m pc ls rest) rfl (by rw [hb]; exact d0) (Nat.le_refl _) (Nat.le_refl _)
  generalize hT1 : (T.setVm vm₁).pushCell { cls := cX, slots := kX.instanceTypes.map defaultValue, vm := .none } = T1 at X₁ st1
  have hcat : (Value.ref T.heap.size).category = 1 := rfl
  have hcellA : T1.heap[T.heap.size]? = some (freshCell cX kX) := by rw [← hT1]; exact State.heap_pushCell_size _ _
  have d3' : decode c.code (pc + 3) = .ok (.dup, 1) := by rw [hb]; exact d3
  obtain ⟨U, hsteps, hrun, hend, hW, hsame, ce, hce, hO⟩ := X₁.ctorThrow0 hexec htr (own := own) (cls := cls) (names := names) (ic := ic) hown' hcls hnames h (fun x hx => nomatch hx) hfX hkX hcellA (by rw [hhp, hT]; exact Nat.le_refl _)
    (g := { method := m, pc := pc + 4, locals := ls, stack := .ref T.heap.size :: .ref T.heap.size :: rest, locked := none }) rfl hsize rfl rfl (rest := rest) rfl
    (by rw [hb]; exact d4) (by rw [hb]; exact d7) hout hRframes (by simp only [List.map_cons, List.sum_cons, hcat]; omega) hlocks
  obtain ⟨f1, f2⟩ := vx_frame hsame
  rw [hhp] at f1 f2
  have hWs : s.WarmedH U.vm := State.WarmedH.trans hW0 hW
  have hcl : s.vm.findClass cls = some ce.cls := by
    have h9 := hO.cls
    rw [hvm] at h9
    exact h9
  have hall : s.sameButNew ({ U with vm := s.vm } : State) locs mc ms := by
    subst hA
    obtain ⟨e1, e2⟩ := hsame
    rw [State.setFrames_setFrames] at e1
    have h2 : (T.setVm s.vm).sameButNew ({ U with vm := s.vm } : State) [] (0 + 1) (0 + 6) := ⟨e1, e2⟩
    have h3 := X.same.trans h2
    rw [List.append_nil] at h3
    exact h3.mono hc hs
  refine ⟨U, ?_, .threw T.heap.size, hrun, hend, Or.inr ⟨T.heap.size, rfl, cls, ce, locs, hx U hWs.alike f1 (fun q hq => f2 q hq (fun z hz => nomatch hz)), hce, hO.vm, hcl, hWs, hall, hf⟩⟩
  refine st1 _ ?_
  show Steps p.tables e below (T1.setTop { method := m, pc := pc + 3, locals := ls, stack := .ref T.heap.size :: rest, locked := none }) _
  jvm_step X₁.here [X₁.here.top, hexec, d3', Value.category]
  exact hsteps
/-- 'throw new E("text")': new; dup; ldc; invokespecial; athrow -/
theorem vx_throwS {cc : ByteArray} {pc : Nat} (hexec : p.tables.exec = Jvm.exec) (hb : c.code = cc) (hl : l.stackTraces = false) {own cls text : String} {names : List String} {ik is ic mc ms sa : Nat} {A : Nat → Prop}
    (hown : s.vm.findClass own = some m.cls) (hcls : Bundle.fit cls = true) (hnames : ∀ n ∈ names, Bundle.fit n = true)
    (hk : (Cond.classLink own ik cls).before args s = true) (hini : (Cond.initialized cls).before args s = true) (hstr : vk_R own is text sa s) (hat : ∀ w ∈ vx_atS own ic cls names, w.before args s = true)
    (hgood : ∀ w ∈ Cond.classLink own ik cls :: Cond.initialized cls :: vx_atS own ic cls names, vx_ot w = true)
    (hU : vx_Zq Bundle.tN "UNASSIGNED_STACK" Bundle.steD A s s.heap) (hN : vx_Zq Bundle.tN "SUPPRESSED_SENTINEL" Bundle.listD A s s.heap) (hS : va_S A s.heap H locs) (hsize : ls.size = c.maxLocals)
    (d0 : decode cc pc = .ok (.new ik, 3)) (d3 : decode cc (pc + 3) = .ok (.dup, 1)) (d4 : decode cc (pc + 4) = .ok (.ldc is, 2)) (d6 : decode cc (pc + 6) = .ok (.invokespecial ic, 3)) (d9 : decode cc (pc + 9) = .ok (.athrow, 1))
    (hout : ∀ x ∈ c.exceptionTable.toList, covers x (pc + 9) = false)
    (hRframes : names.length + 3 < R.frames) (hRlocals : (rest.map fun v => v.category).sum + (13 * (names.length + 1) + 43) ≤ R.locals) (hRcells : cells + 1 ≤ R.cells) (hRslots : slots + 6 ≤ R.slots) (hlocks : meth.locks = false)
    (hx : ∀ t : State, s.vm.Alike t.vm → H.size ≤ t.heap.size → (∀ q : Nat, q < H.size → t.heap[q]? = H[q]?) → XC cls s t)
    (hf : ∀ z ∈ locs, free z.base) (hc : cells + 1 ≤ mc) (hs : slots + 6 ≤ ms) :
    W p l e R s m args below meth c H locs cells slots (vx_MQ below Qc XC args s mc ms free) (F0 m pc ls rest) := by
  intro T hT X
  have htr : e.platform.stackTraces = false := (show e.platform.stackTraces = l.stackTraces by rw [X.admits.platform]).trans hl
  have Y := vx_rebase X (R' := { frames := R.frames, locals := R.locals, cells := 1, slots := 6 }) (Nat.le_refl _) (Nat.le_refl _) hRcells hRslots
  obtain ⟨s', hA⟩ : ∃ z, z = (T.setVm s.vm).setFrames (.invoking m args :: below) := ⟨_, rfl⟩
  rw [← hA] at Y
  have hvm : s'.vm = s.vm := by rw [hA]; rfl
  have hhp : s'.heap = H := by rw [hA]; exact hT
  have hW0 : s.WarmedH s'.vm := by rw [hvm]; exact State.WarmedH.refl s
  have hat' : ∀ w ∈ vx_atS own ic cls names, w.before args s' = true := fun w hw => vx_ot_at hW0 hvm.symm (hgood w (List.mem_cons_of_mem _ (List.mem_cons_of_mem _ hw))) (hat w hw)
  have hk' : (Cond.classLink own ik cls).before args s' = true := vx_ot_at hW0 hvm.symm (hgood _ List.mem_cons_self) hk
  have hini' : (Cond.initialized cls).before args s' = true := vx_ot_at hW0 hvm.symm (hgood _ (List.mem_cons_of_mem _ List.mem_cons_self)) hini
  have hU' : vx_Zq Bundle.tN "UNASSIGNED_STACK" Bundle.steD A s' s'.heap := by rw [hhp]; exact vx_Zq.moved hW0.alike (hU.kept hS.2.1)
  have hN' : vx_Zq Bundle.tN "SUPPRESSED_SENTINEL" Bundle.listD A s' s'.heap := by rw [hhp]; exact vx_Zq.moved hW0.alike (hN.kept hS.2.1)
  have h : ∀ w ∈ Bundle.ownAtoms own ic cls names, w.before args s' = true := vx_own hat' (vx_isRefq hU'.1) (vx_isRefq hN'.1) hU'.2.word hN'.2.word
  have hown' : s'.vm.findClass own = some m.cls := by rw [hvm]; exact hown
  have hins : (Cond.instantiable cls 6).before args s' = true := h _ (by simp [Bundle.ownAtoms])
  obtain ⟨vm₁, cX, kX, hfX, hkX, -, -, X₁, st1⟩ := Y.newCold hexec (own := own) (C := cls) (index := ik) (n := 6) hown' hk' hins hini'
    (g := F0 m pc ls rest) rfl (by rw [hb]; exact d0) (Nat.le_refl _) (Nat.le_refl _)
  generalize hT1 : (T.setVm vm₁).pushCell { cls := cX, slots := kX.instanceTypes.map defaultValue, vm := .none } = T1 at X₁ st1
  have hcat : (Value.ref T.heap.size).category = 1 := rfl
  have hcellA : T1.heap[T.heap.size]? = some (freshCell cX kX) := by rw [← hT1]; exact State.heap_pushCell_size _ _
  have d3' : decode c.code (pc + 3) = .ok (.dup, 1) := by rw [hb]; exact d3
  have d4' : decode c.code (pc + 4) = .ok (.ldc is, 2) := by rw [hb]; exact d4
  have hstr' : vk_R own is text sa s' := vk_R.warm hW0 hstr
  obtain ⟨U, hsteps, hrun, hend, hW, hsame, ce, hce, hO⟩ := X₁.ctorThrowS hexec htr (own := own) (cls := cls) (names := names) (ic := ic) hown' hcls hnames h (fun x hx => nomatch hx) hfX hkX hcellA (by rw [hhp, hT]; exact Nat.le_refl _) (msg := .ref sa) rfl
    (g := { method := m, pc := pc + 6, locals := ls, stack := .ref sa :: .ref T.heap.size :: .ref T.heap.size :: rest, locked := none }) rfl hsize rfl rfl (rest := rest) rfl
    (by rw [hb]; exact d6) (by rw [hb]; exact d9) hout hRframes (by simp only [List.map_cons, List.sum_cons, hcat]; omega) hlocks
  obtain ⟨f1, f2⟩ := vx_frame hsame
  rw [hhp] at f1 f2
  have hWs : s.WarmedH U.vm := State.WarmedH.trans hW0 hW
  have hcl : s.vm.findClass cls = some ce.cls := by
    have h9 := hO.cls
    rw [hvm] at h9
    exact h9
  have hall : s.sameButNew ({ U with vm := s.vm } : State) locs mc ms := by
    subst hA
    obtain ⟨e1, e2⟩ := hsame
    rw [State.setFrames_setFrames] at e1
    have h2 : (T.setVm s.vm).sameButNew ({ U with vm := s.vm } : State) [] (0 + 1) (0 + 6) := ⟨e1, e2⟩
    have h3 := X.same.trans h2
    rw [List.append_nil] at h3
    exact h3.mono hc hs
  refine ⟨U, ?_, .threw T.heap.size, hrun, hend, Or.inr ⟨T.heap.size, rfl, cls, ce, locs, hx U hWs.alike f1 (fun q hq => f2 q hq (fun z hz => nomatch hz)), hce, hO.vm, hcl, hWs, hall, hf⟩⟩
  refine st1 _ ?_
  show Steps p.tables e below (T1.setTop { method := m, pc := pc + 3, locals := ls, stack := .ref T.heap.size :: rest, locked := none }) _
  jvm_step X₁.here [X₁.here.top, hexec, d3', Value.category]
  exact X₁.ldcString hexec (own := own) (text := text) (index := is) (a := sa) hown' hstr'.1 hstr'.2
    (g := { method := m, pc := pc + 4, locals := ls, stack := .ref T.heap.size :: .ref T.heap.size :: rest, locked := none }) rfl d4' _ hsteps
/-- 'throw new E("text")', the text by a wide index -/
theorem vx_throwSW {cc : ByteArray} {pc : Nat} (hexec : p.tables.exec = Jvm.exec) (hb : c.code = cc) (hl : l.stackTraces = false) {own cls text : String} {names : List String} {ik is ic mc ms sa : Nat} {A : Nat → Prop}
    (hown : s.vm.findClass own = some m.cls) (hcls : Bundle.fit cls = true) (hnames : ∀ n ∈ names, Bundle.fit n = true)
    (hk : (Cond.classLink own ik cls).before args s = true) (hini : (Cond.initialized cls).before args s = true) (hstr : vk_R own is text sa s) (hat : ∀ w ∈ vx_atS own ic cls names, w.before args s = true)
    (hgood : ∀ w ∈ Cond.classLink own ik cls :: Cond.initialized cls :: vx_atS own ic cls names, vx_ot w = true)
    (hU : vx_Zq Bundle.tN "UNASSIGNED_STACK" Bundle.steD A s s.heap) (hN : vx_Zq Bundle.tN "SUPPRESSED_SENTINEL" Bundle.listD A s s.heap) (hS : va_S A s.heap H locs) (hsize : ls.size = c.maxLocals)
    (d0 : decode cc pc = .ok (.new ik, 3)) (d3 : decode cc (pc + 3) = .ok (.dup, 1)) (d4 : decode cc (pc + 4) = .ok (.ldc_w is, 3)) (d7 : decode cc (pc + 7) = .ok (.invokespecial ic, 3)) (d10 : decode cc (pc + 10) = .ok (.athrow, 1))
    (hout : ∀ x ∈ c.exceptionTable.toList, covers x (pc + 10) = false)
    (hRframes : names.length + 3 < R.frames) (hRlocals : (rest.map fun v => v.category).sum + (13 * (names.length + 1) + 43) ≤ R.locals) (hRcells : cells + 1 ≤ R.cells) (hRslots : slots + 6 ≤ R.slots) (hlocks : meth.locks = false)
    (hx : ∀ t : State, s.vm.Alike t.vm → H.size ≤ t.heap.size → (∀ q : Nat, q < H.size → t.heap[q]? = H[q]?) → XC cls s t)
    (hf : ∀ z ∈ locs, free z.base) (hc : cells + 1 ≤ mc) (hs : slots + 6 ≤ ms) :
    W p l e R s m args below meth c H locs cells slots (vx_MQ below Qc XC args s mc ms free) (F0 m pc ls rest) := by
  intro T hT X
  have htr : e.platform.stackTraces = false := (show e.platform.stackTraces = l.stackTraces by rw [X.admits.platform]).trans hl
  have Y := vx_rebase X (R' := { frames := R.frames, locals := R.locals, cells := 1, slots := 6 }) (Nat.le_refl _) (Nat.le_refl _) hRcells hRslots
  obtain ⟨s', hA⟩ : ∃ z, z = (T.setVm s.vm).setFrames (.invoking m args :: below) := ⟨_, rfl⟩
  rw [← hA] at Y
  have hvm : s'.vm = s.vm := by rw [hA]; rfl
  have hhp : s'.heap = H := by rw [hA]; exact hT
  have hW0 : s.WarmedH s'.vm := by rw [hvm]; exact State.WarmedH.refl s
  have hat' : ∀ w ∈ vx_atS own ic cls names, w.before args s' = true := fun w hw => vx_ot_at hW0 hvm.symm (hgood w (List.mem_cons_of_mem _ (List.mem_cons_of_mem _ hw))) (hat w hw)
  have hk' : (Cond.classLink own ik cls).before args s' = true := vx_ot_at hW0 hvm.symm (hgood _ List.mem_cons_self) hk
  have hini' : (Cond.initialized cls).before args s' = true := vx_ot_at hW0 hvm.symm (hgood _ (List.mem_cons_of_mem _ List.mem_cons_self)) hini
  have hU' : vx_Zq Bundle.tN "UNASSIGNED_STACK" Bundle.steD A s' s'.heap := by rw [hhp]; exact vx_Zq.moved hW0.alike (hU.kept hS.2.1)
  have hN' : vx_Zq Bundle.tN "SUPPRESSED_SENTINEL" Bundle.listD A s' s'.heap := by rw [hhp]; exact vx_Zq.moved hW0.alike (hN.kept hS.2.1)
  have h : ∀ w ∈ Bundle.ownAtoms own ic cls names, w.before args s' = true := vx_own hat' (vx_isRefq hU'.1) (vx_isRefq hN'.1) hU'.2.word hN'.2.word
  have hown' : s'.vm.findClass own = some m.cls := by rw [hvm]; exact hown
  have hins : (Cond.instantiable cls 6).before args s' = true := h _ (by simp [Bundle.ownAtoms])
  obtain ⟨vm₁, cX, kX, hfX, hkX, -, -, X₁, st1⟩ := Y.newCold hexec (own := own) (C := cls) (index := ik) (n := 6) hown' hk' hins hini'
    (g := F0 m pc ls rest) rfl (by rw [hb]; exact d0) (Nat.le_refl _) (Nat.le_refl _)
  generalize hT1 : (T.setVm vm₁).pushCell { cls := cX, slots := kX.instanceTypes.map defaultValue, vm := .none } = T1 at X₁ st1
  have hcat : (Value.ref T.heap.size).category = 1 := rfl
  have hcellA : T1.heap[T.heap.size]? = some (freshCell cX kX) := by rw [← hT1]; exact State.heap_pushCell_size _ _
  have d3' : decode c.code (pc + 3) = .ok (.dup, 1) := by rw [hb]; exact d3
  have d4' : decode c.code (pc + 4) = .ok (.ldc_w is, 3) := by rw [hb]; exact d4
  have hstr' : vk_R own is text sa s' := vk_R.warm hW0 hstr
  obtain ⟨U, hsteps, hrun, hend, hW, hsame, ce, hce, hO⟩ := X₁.ctorThrowS hexec htr (own := own) (cls := cls) (names := names) (ic := ic) hown' hcls hnames h (fun x hx => nomatch hx) hfX hkX hcellA (by rw [hhp, hT]; exact Nat.le_refl _) (msg := .ref sa) rfl
    (g := { method := m, pc := pc + 7, locals := ls, stack := .ref sa :: .ref T.heap.size :: .ref T.heap.size :: rest, locked := none }) rfl hsize rfl rfl (rest := rest) rfl
    (by rw [hb]; exact d7) (by rw [hb]; exact d10) hout hRframes (by simp only [List.map_cons, List.sum_cons, hcat]; omega) hlocks
  obtain ⟨f1, f2⟩ := vx_frame hsame
  rw [hhp] at f1 f2
  have hWs : s.WarmedH U.vm := State.WarmedH.trans hW0 hW
  have hcl : s.vm.findClass cls = some ce.cls := by
    have h9 := hO.cls
    rw [hvm] at h9
    exact h9
  have hall : s.sameButNew ({ U with vm := s.vm } : State) locs mc ms := by
    subst hA
    obtain ⟨e1, e2⟩ := hsame
    rw [State.setFrames_setFrames] at e1
    have h2 : (T.setVm s.vm).sameButNew ({ U with vm := s.vm } : State) [] (0 + 1) (0 + 6) := ⟨e1, e2⟩
    have h3 := X.same.trans h2
    rw [List.append_nil] at h3
    exact h3.mono hc hs
  refine ⟨U, ?_, .threw T.heap.size, hrun, hend, Or.inr ⟨T.heap.size, rfl, cls, ce, locs, hx U hWs.alike f1 (fun q hq => f2 q hq (fun z hz => nomatch hz)), hce, hO.vm, hcl, hWs, hall, hf⟩⟩
  refine st1 _ ?_
  show Steps p.tables e below (T1.setTop { method := m, pc := pc + 3, locals := ls, stack := .ref T.heap.size :: rest, locked := none }) _
  jvm_step X₁.here [X₁.here.top, hexec, d3', Value.category]
  exact X₁.ldcStringW hexec (own := own) (text := text) (index := is) (a := sa) hown' hstr'.1 hstr'.2
    (g := { method := m, pc := pc + 4, locals := ls, stack := .ref T.heap.size :: .ref T.heap.size :: rest, locked := none }) rfl d4' _ hsteps
end Ends
section Bodies
variable {l : Launch}
theorem vx_ofW {y : MethodName} {ws ws' : List Cond} {rm : Room} {Pc : Array Value → State → Prop} {Qc : Array Value → State → Outcome → State → Prop} {XC : String → State → State → Prop} {mc ms : Nat} {free : Addr → Prop} {cc : ByteArray} {maxL : Nat} {ret : Option FieldType}
    (hy : plainName y.cls = true) (hw : ws = Cond.code y cc maxL ret :: ws')
    (body : ∀ p e s m args below meth c s₁, BodyLoose p l y (headSpec ws rm) cc maxL ret e s m args below meth c s₁ → c.maxLocals = maxL → (∀ x ∈ c.exceptionTable.toList, False) → Pc args s →
      W p l e (headSpec ws rm).room s m args below meth c s.heap [] 0 0 (vx_MQ below Qc XC args s mc ms free) (entryFrame m args maxL)) : vx_Met l y ws rm Pc Qc XC mc ms free := by
  refine MetFree.of_bodyS (code := cc) (maxLocals := maxL) (ret := ret) hy ?_ ?_
  · intro args s m h hn
    obtain ⟨meth, c, h1, h2, h3, h4, h5, h6, -, -⟩ := Cond.code_spec hn (atoms_spec (ws := ws) h _ (by rw [hw]; exact List.mem_cons_self))
    exact ⟨meth, c, h1, h2, h3, h4, h5, h6⟩
  · intro p e s m args below meth c s₁ B hml hP _
    have hh0 : s₁.heap = s.heap := by rw [B.state]; rfl
    have ht : ∀ x ∈ c.exceptionTable.toList, False := by
      obtain ⟨meth9, c9, h1, h2, -, -, -, -, h7, -⟩ := Cond.code_spec B.named (atoms_spec (ws := ws) B.pre _ (by rw [hw]; exact List.mem_cons_self))
      cases Option.some.inj (h1.symm.trans B.method)
      cases Option.some.inj (h2.symm.trans (Stand.of_body B).code)
      intro x hx
      rw [Array.isEmpty_iff.mp h7] at hx
      cases hx
    obtain ⟨t, a1, o, b1, b2, b3⟩ := body p e s m args below meth c s₁ B hml ht hP s₁ hh0 (Stand.of_body B)
    exact ⟨t, o, a1, b1, b2, b3⟩
/-- the table of a body with handlers -/
theorem vx_table {p : Program} {x y : MethodName} {S : Spec} {cc bytes : ByteArray} {maxL maxL' : Nat} {ret ret' : Option FieldType} {e : Env} {s s₁ : State} {m : MethodId} {args : Array Value} {below : List Frame} {meth : Method} {c : Code} {hh : List (Nat × Nat × Nat × Nat)}
    (B : BodyLoose p l y S cc maxL ret e s m args below meth c s₁) (h : (Cond.codeWith y bytes maxL' ret' hh).before args s = true) : c.exceptionTable.toList = tableOf hh := by
  obtain ⟨m9, meth9, c9, hn9, h1, h2, -, -, h6, -⟩ := Cond.codeWith_spec h
  cases Option.some.inj (hn9.symm.trans B.named)
  cases Option.some.inj (h1.symm.trans B.method)
  cases Option.some.inj (h2.symm.trans (Stand.of_body B).code)
  rw [← h6, table_eq]
end Bodies
end VXA
/-! ===== END ===== -/
/-! ===== BEGIN a static call of a method with an exception table ===== -/
section VXS
variable {p : Program} {l : Launch} {e : Env} {R : Room} {s : State} {m : MethodId} {args : Array Value} {below : List Frame} {meth : Method} {c : Code} {T : State} {H : Heap} {locs : List Loc} {cells slots : Nat}
abbrev vx_CSW (R : Room) (s : State) (args : Array Value) (own : String) (index : Nat) (y : MethodName) (bytes : ByteArray) (maxL : Nat) (ret : Option FieldType) (hh : List (Nat × Nat × Nat × Nat)) (ws : List Cond) (rm : Room) (mc ms n : Nat) : Prop :=
  (rm.cells = mc ∧ rm.slots = ms ∧ rm.frames + 1 ≤ R.frames ∧ 8 + (maxL + 11) + rm.locals ≤ R.locals ∧ (∀ w ∈ ws, ∀ (a' : Array Value) (U : State), s.WarmedH U.vm → w.before a' U = true) ∧ Cond.codeWith y bytes maxL ret hh ∈ ws) ∧
  (Cond.codeWith y bytes maxL ret hh).before args s = true ∧ (Cond.initialized y.cls).before args s = true ∧ (y.cls ≠ "java/lang/invoke/MethodHandle" ∧ y.cls ≠ "java/lang/invoke/VarHandle") ∧
  (∀ sig, parseMethodDescriptor y.desc = some sig → n = sig.parameters.length) ∧ (Cond.methodLink own index y).before args s = true ∧ (Cond.static y).before args s = true
theorem vx_cwSW {own : String} {index maxL mc ms : Nat} {y : MethodName} {bytes : ByteArray} {ret : Option FieldType} {hh : List (Nat × Nat × Nat × Nat)} {Ts ws ws' : List Cond} {rm : Room} (n : Nat) (ht : ∀ w ∈ Ts, w.before args s = true) (hT : GoodIn Ts (va_wsS own index y ws)) (hw : ws = Cond.codeWith y bytes maxL ret hh :: ws') (hrc : rm.cells = mc) (hrs : rm.slots = ms)
    (hd : y.cls ≠ "java/lang/invoke/MethodHandle" ∧ y.cls ≠ "java/lang/invoke/VarHandle" ∧ (parseMethodDescriptor y.desc).map (fun d => d.parameters.length) = some n) (hR : rm.frames + 1 ≤ R.frames ∧ 8 + (maxL + 11) + rm.locals ≤ R.locals) :
    vx_CSW R s args own index y bytes maxL ret hh ws rm mc ms n := by
  have ok : ∀ w ∈ va_wsS own index y ws, w.before args s = true := fun w h => ht w (hT w h).1
  have hG : GoodIn Ts ws := fun w h => hT w (by unfold va_wsS; exact List.mem_append_right _ h)
  have hc : Cond.codeWith y bytes maxL ret hh ∈ ws := by rw [hw]; exact List.mem_cons_self
  refine ⟨⟨hrc, hrs, hR.1, hR.2, pay_in ht hG, hc⟩, ht _ (hG _ hc).1, ok _ (by simp [va_wsS]), ⟨hd.1, hd.2.1⟩, fun sig h => ?_, ok _ (by simp [va_wsS]), ok _ (by simp [va_wsS])⟩
  have h2 := hd.2.2
  rw [h] at h2
  exact (Option.some.inj h2).symm
theorem vx_callSW (X : Stand p l e R s m args below meth c T locs cells slots) (hexec : p.tables.exec = Jvm.exec) {own : String} {index : Nat} {y : MethodName} {bytes : ByteArray} {maxL : Nat} {ret : Option FieldType} {hh : List (Nat × Nat × Nat × Nat)}
    (hown : s.vm.findClass own = some m.cls) (hlink : (Cond.methodLink own index y).before args s = true) (hstat : (Cond.static y).before args s = true) (hinit : (Cond.initialized y.cls).before args s = true)
    (hcode : (Cond.codeWith y bytes maxL ret hh).before args s = true) (hy : y.cls ≠ "java/lang/invoke/MethodHandle" ∧ y.cls ≠ "java/lang/invoke/VarHandle")
    {W9 : Nat} {Pre : Pt → Array Value → Prop} {Post : Pt → Array Value → Option Value → Pt → Prop} (hK : Back l R p e below s args y 3 W9 Pre Post)
    {g : JFrame} (hg : g.method = m) (hsize : g.locals.size = c.maxLocals) {argsL rest : List Value} (hlen : ∀ sig, parseMethodDescriptor y.desc = some sig → argsL.length = sig.parameters.length)
    (hstack : g.stack = argsL.reverse ++ rest) (hW : 2 * g.monitorRoom + (rest.map fun v => v.category).sum ≤ W9) (hdg : decode c.code g.pc = .ok (.invokestatic index, 3))
    (hpre : ∀ vm₁, s.WarmedH vm₁ → Pre ⟨T.setVm vm₁, locs, cells, slots⟩ argsL.toArray) :
    ∃ (v : Option Value) (vm₁ : Vm) (B : Pt), s.WarmedH vm₁ ∧ Stand p l e R s m args below meth c B.U B.locs B.cells B.slots ∧ Post ⟨T.setVm vm₁, locs, cells, slots⟩ argsL.toArray v B ∧
      ∀ target, Steps p.tables e below (B.U.setTop { g with pc := g.pc + 3, stack := v.toList ++ rest }) target → Steps p.tables e below (T.setTop g) target := by
  obtain ⟨mk, methM, cM, hnamed, hmethM, -, -, -, -, -, -, hsigM⟩ := Cond.codeWith_spec hcode
  have hstatic : methM.isStatic = true := Cond.static_spec hnamed hmethM hstat
  obtain ⟨kP, hkP, -⟩ := className_of_methodNamed hnamed
  have hinitP : kP.init = .initialized := Cond.initialized_spec (findClass_of_methodNamed hnamed) hkP hinit
  obtain ⟨vm₁, X₁, hstep₁⟩ := X.invokestatic hexec hown hlink hnamed hmethM hstatic hkP hinitP hy (g := g) hg (argsL := argsL) (rest := rest) (hlen _ hsigM) hstack hdg
  obtain ⟨v, B, X', hpost, hsteps⟩ := hK m meth c ⟨T.setVm vm₁, locs, cells, slots⟩ { g with stack := rest } (.invokestatic index) mk argsL.toArray X₁ hg hsize hdg hW (X₁.named hnamed) (hpre vm₁ X₁.warmed)
  exact ⟨v, vm₁, B, X₁.warmed, X', hpost, fun target h => hstep₁ _ fun acts => by rw [doInvoke_state]; exact hsteps.trans h⟩
theorem vx_runSW {y : MethodName} {bytes cc : ByteArray} {maxL nL mc ms n index : Nat} {ret : Option FieldType} {hh : List (Nat × Nat × Nat × Nat)} {ws : List Cond} {rm : Room} {Pc : Array Value → State → Prop} {Qc : Array Value → State → Outcome → State → Prop} {free : Addr → Prop} {Ts : List Cond} {own : String} {As rest : List Value} {g : JFrame}
    (S : CallFix p m c cc nL s args Ts own) (hM : Met l y ws rm Pc Qc mc ms free) (cw : vx_CSW R s args own index y bytes maxL ret hh ws rm mc ms n) (hp : PreS s H Pc As)
    (hg : g.method = m) (hn : As.length = n) (hsize : g.locals.size = nL) (hstack : g.stack = As.reverse ++ rest) (hW : 2 * g.monitorRoom + (rest.map fun v => v.category).sum ≤ 8) (hdg : decode cc g.pc = .ok (.invokestatic index, 3)) (hf : cells + mc ≤ R.cells ∧ slots + ms ≤ R.slots) :
    va_Run p l e R s m args below meth c H locs cells slots mc ms g rest (Qc As.toArray) (free) := by
  obtain ⟨⟨hrc, hrs, hfr, hlo, hws, hcw⟩, hcode, hini, hy, hlen, hl, hstt⟩ := cw
  have hK : Back l R p e below s args y 3 8 (PreOf R mc ms Pc) (PostOf Qc mc ms free) := va_backW (hh := hh) (bytes := bytes) (maxL := maxL) (ret := ret) hM hp.1 hrc hrs hfr hlo hws hcw (fun a' U hW => word_at hW (Or.inl (by first | rfl | simp [Cond.onTables, Cond.keeps, Cond.steady])) hini)
  obtain ⟨hx, hb, hml, ho, -⟩ := S
  intro T hT X
  obtain ⟨v, vm₁, ⟨U', l2, c2, s2⟩, hW₁, X', ⟨g', mk, t, L, e1, e2, hq, h1, hL, h2, h3⟩, st⟩ := vx_callSW X hx (hh := hh) (bytes := bytes) (maxL := maxL) (ret := ret) ho hl hstt hini hcode hy hK hg (hsize.trans hml.symm) (argsL := As) (rest := rest) (fun sig h => hn.trans (hlen sig h)) hstack hW (by rw [hb]; exact hdg)
    (fun vm₁ hW₁ => ⟨hf.1, hf.2, hp.2 (T.setVm vm₁) hT hW₁⟩)
  dsimp only [Pt.U, Pt.locs, Pt.cells, Pt.slots] at X' e1 e2 h1 h2 h3 st
  subst h1; subst h2; subst h3
  exact ⟨v, (T.setVm vm₁).calling g' mk As.toArray, t, U', L, hT, X', hL, e1, e2, hq, st⟩
/-- not caught here, past rows that name other classes: it goes on to the caller -/
theorem vx_outP {p : Program} {l : Launch} {e : Env} {R : Room} {s : State} {m : MethodId} {args : Array Value} {below : List Frame} {meth : Method} {c : Code} {H : Heap} {locs : List Loc} {cells slots : Nat} {free : Addr → Prop} {ls : Array Slot} {rest : List Value} {Qc : Array Value → State → Outcome → State → Prop} {XC : String → State → State → Prop}
    {pc : Nat} {own E : String} {ce : Cell} {q : Addr} {mc ms : Nat} (hown : s.vm.findClass own = some m.cls) (hlocks : meth.locks = false)
    (hpass : ∀ z ∈ c.exceptionTable.toList, covers z pc = false ∨ (z.catchType ≠ 0 ∧ ∃ nm : String, (Cond.classLink own z.catchType nm).before args s = true ∧ va_Nc E nm s)) (hcell : H[q]? = some ce) (hv : ce.vm = .none) (hcl : s.vm.findClass E = some ce.cls)
    (hx : ∀ t : State, t.heap = H → s.vm.Alike t.vm → XC E s t) (hf : ∀ z ∈ locs, free z.base) (hc : cells ≤ mc) (hs : slots ≤ ms) :
    vx_W p l e R s m args below meth c H locs cells slots (vx_MQ below Qc XC args s mc ms free) (F0 m pc ls rest) q := by
  intro T hT X
  have hpl : e.platform.magicAccessors = ({} : Platform).magicAccessors := by rw [X.admits.platform]
  obtain ⟨vm', hW', X', st⟩ := X.outThrough hlocks q (g := F0 m pc ls rest) rfl rfl rfl (cell := ce) (by rw [hT]; exact hcell) (by rw [hv]; rfl)
    (by obtain ⟨k9, h9, -⟩ := Vm.findClass_spec hcl; exact ⟨k9, h9⟩) (fun z hz => by
      rcases hpass z hz with h | ⟨hz0, nm, hl1, hn1⟩
      · exact Or.inl h
      · obtain ⟨c6, hc6, hcl6⟩ := Cond.classLink_spec hown hl1 e.platform hpl
        obtain ⟨a8, b8, h1, h2, h3⟩ := hn1
        cases Option.some.inj (h1.symm.trans hcl)
        cases Option.some.inj (h2.symm.trans hc6)
        exact Or.inr ⟨hz0, _, hcl6, h3⟩)
  obtain ⟨g₀, hfr⟩ := X'.frames_eq
  have hcell9 : ((T.setVm vm').setFrames (.throwing q :: below)).heap[q]? = some ce := by
    show T.heap[q]? = some ce
    rw [hT]; exact hcell
  have hend : Ended ((T.setVm vm').setFrames (.throwing q :: below)) below (.threw q) := State.frames_setFrames _ (State.cur_lt_of_frames hfr)
  refine ⟨(T.setVm vm').setFrames (.throwing q :: below), ?_, .threw q, X'.here.running, hend, Or.inr ⟨q, rfl, E, ce, locs, hx _ hT (X'.ends _).1.alike, hcell9, hv, hcl, (X'.ends _).1, (X'.ends _).2.mono hc hs, hf⟩⟩
  rw [X.pushThrowing_eq]
  exact st
/-- a thing of a world lies in the heap -/
theorem vx_lt {D : va_G} {cl : List vw_C} {ws : va_W} {H1 : Heap} (h : va_P D cl ws H1) {k : Nat} {q : Nat × va_E} (hk : ws[k]? = some q) : q.1 < H1.size := (h k q hk).lt
end VXS
/-! ===== END ===== -/
/-! ===== BEGIN methods with a table of their own: called by a name, returning or throwing ===== -/
section VXH
/-! vx_backW, vx_callVX, vx_callSX, vx_callVW, vx_runVW, vx_runVX, vx_runSX, vx_ofWH follow the same proofs as their sisters above (Free/Laws.lean, Shelf42/LK1.lean); vx_outP calls Shelf42/NT130.lean (outThrough). -/
section
variable {l : Launch} {R : Room} {p : Program} {e : Env} {below : List Frame} {s : State} {sargs : Array Value} {y : MethodName} {len W9 : Nat}
theorem vx_backW {ws : List Cond} {rm : Room} {Pc : Array Value → State → Prop} {Qc : Array Value → State → Outcome → State → Prop} {XC : String → State → State → Prop} {mc ms : Nat} {free : Addr → Prop} {bytes : ByteArray} {maxL : Nat} {ret : Option FieldType} {hh : List (Nat × Nat × Nat × Nat)}
    (hM : vx_Met l y ws rm Pc Qc XC mc ms free) (hblind : FrameBlind Pc) (hrc : rm.cells = mc) (hrs : rm.slots = ms)
    (hframes : rm.frames + 1 ≤ R.frames) (hlocals : W9 + (maxL + 11) + rm.locals ≤ R.locals)
    (hws : ∀ w ∈ ws, ∀ a' U, s.WarmedH U.vm → w.before a' U = true) (hcode : Cond.codeWith y bytes maxL ret hh ∈ ws) (hinit : ∀ a' U, s.WarmedH U.vm → (Cond.initialized y.cls).before a' U = true) :
    vx_Back l R p e below s sargs y len W9 (PreOf R mc ms Pc) (PostOf Qc mc ms free) (vx_Post XC mc ms free) := by
  intro m meth c A g ig mk a X hg hsize hdg hW hn hp
  have h1 : (headSpec ws rm).pre.before a A.U = true := atoms_intro fun w hw => hws w hw _ _ X.warmed
  have h2 : (Cond.codeWith y bytes maxL ret hh).before a A.U = true := hws _ hcode _ _ X.warmed
  have h3 : (Cond.initialized y.cls).before a A.U = true := hinit _ _ X.warmed
  have h4 : A.cells + (headSpec ws rm).room.cells ≤ R.cells := by rw [show (headSpec ws rm).room.cells = mc from hrc]; exact hp.1
  have h5 : A.slots + (headSpec ws rm).room.slots ≤ R.slots := by rw [show (headSpec ws rm).room.slots = ms from hrs]; exact hp.2.1
  have hPc : Pc a (A.U.calling g mk a) := hblind _ _ _ _ hp.2.2
  obtain ⟨U, Ls, c0, s0⟩ := A
  dsimp only [Pt.U, Pt.locs, Pt.cells, Pt.slots] at h1 h2 h3 h4 h5 X hn hPc ⊢
  obtain ⟨m9, methY, cY, hn9, hmY, hcY, -, hlY, -⟩ := Cond.codeWith_spec h2
  cases Option.some.inj (hn9.symm.trans hn)
  obtain ⟨kY, hkY, -⟩ := className_of_methodNamed hn
  have hinitY : kY.init = .initialized := Cond.initialized_spec (findClass_of_methodNamed hn) hkY h3
  have h : At U g.method c below := by rw [hg]; exact X.here
  have hlocals9 : W9 + (maxL + 11) + (headSpec ws rm).room.locals ≤ R.locals := hlocals
  have happ : (headSpec ws rm).appliesLoose y e.platform (U.calling g mk a) = true :=
    Spec.appliesLoose_calling (g := g) h hdg hn hkY hinitY
      (X.room_calling (g := g) (R' := (headSpec ws rm).room) hsize hmY hcY hframes (by rw [hlY]; omega) h4 h5) h1
  obtain ⟨mid, hmid⟩ := h.above
  have hfr : (U.setTop g).frames = (.java g :: mid) ++ below := by rw [State.frames_setTop' g h.top, hmid]; rfl
  obtain ⟨o, s₂, hsteps, -, hend, hq⟩ := Steps.callFree hM p X.admits X.cas X.clock (acts := []) hfr happ hPc trivial
  have hq' : vx_Q Qc XC mc ms free a (U.calling g mk a) o s₂ := hq
  rw [State.frames_setTop' g h.top] at hend
  obtain ⟨g₀, hg0⟩ := Option.isSome_iff_exists.mp h.top
  obtain ⟨r, hr⟩ := State.topJava?_eq_some.mp hg0
  have hr' : (({ U with heap := s₂.heap, slotsUsed := s₂.slotsUsed } : State).setVm s₂.vm).frames = .java g₀ :: r := hr
  rcases hq' with ⟨hqc, L, hfe, hL⟩ | ⟨q, rfl, E, ce, L, hx, hce, hcv, hcl, hW₂, hsm, hL⟩
  · obtain ⟨⟨v, rfl⟩, hW₂, e2, q2, q3, q4, q5, q6⟩ := id hfe
    have e3 : s₂ = ({ (U.calling g mk a).setFrames s₂.frames with heap := s₂.heap, slotsUsed := s₂.slotsUsed } : State).setVm s₂.vm := by
      have : s₂ = ({ s₂ with vm := (U.calling g mk a).vm } : State).setVm s₂.vm := rfl
      rw [e2] at this
      exact this
    obtain ⟨c₂, i₂, len₂, hc₂, hd₂, hf₂⟩ := hend
    have hW' : U.WarmedH s₂.vm := hW₂
    have hcc : c₂ = c := by
      have h1 : s₂.code? g.method = U.code? g.method := by
        rw [State.code?_eq, State.code?_eq, hW'.alike.method?]
      exact Option.some.inj (hc₂.symm.trans (h1.trans h.code))
    subst hcc
    have hlen : len₂ = len := by rw [hdg] at hd₂; cases hd₂; rfl
    subst hlen
    have hs₂ : s₂ = (({ U with heap := s₂.heap, slotsUsed := s₂.slotsUsed } : State).setVm s₂.vm).setTop { g with pc := g.pc + len₂, stack := v.toList ++ g.stack } := by
      refine e3.trans ?_
      rw [hf₂, State.calling_eq h.top, State.setFrames_setFrames, State.setTop_of_frames _ hr', hr]
      rfl
    have hsame : U.sameButNew ({ U with heap := s₂.heap, slotsUsed := s₂.slotsUsed } : State) L mc ms := by
      refine ⟨?_, q2, q3, q4, q5, q6⟩
      obtain ⟨t, ht, -⟩ := State.frames_cons hr
      show ({ U with heap := s₂.heap, slotsUsed := s₂.slotsUsed } : State) = { U.setFrames U.frames with heap := s₂.heap, slotsUsed := s₂.slotsUsed }
      rw [State.setFrames_self ht]
    subst hg
    refine Or.inl ⟨v, ⟨(({ U with heap := s₂.heap, slotsUsed := s₂.slotsUsed } : State).setVm s₂.vm), Ls ++ L, c0 + mc, s0 + ms⟩,
      ⟨X.admits, X.cas, X.clock, X.frames, X.room, X.hears, X.method, X.code, (X.here.setHeapUsed s₂.heap s₂.slotsUsed).setVm hW'.alike, X.tail, State.WarmedH.trans X.warmed hW', X.limits, X.bytes, X.same.trans (hsame.setVm s.vm)⟩,
      ⟨g, mk, s₂, L, rfl, rfl, hqc, rfl, hL, rfl, rfl⟩, ?_⟩
    show Steps p.tables e below _ ((({ U with heap := s₂.heap, slotsUsed := s₂.slotsUsed } : State).setVm s₂.vm).setTop { g with pc := g.pc + len₂, stack := v.toList ++ g.stack })
    rw [← hs₂]
    exact hsteps
  · obtain ⟨e2, q2, q3, q4, q5, q6⟩ := id hsm
    have e3 : s₂ = ({ (U.calling g mk a).setFrames s₂.frames with heap := s₂.heap, slotsUsed := s₂.slotsUsed } : State).setVm s₂.vm := by
      have : s₂ = ({ s₂ with vm := (U.calling g mk a).vm } : State).setVm s₂.vm := rfl
      rw [e2] at this
      exact this
    have hf₂ : s₂.frames = .throwing q :: .java g :: U.frames.tail := hend
    have hW' : U.WarmedH s₂.vm := hW₂
    have hs₂ : s₂ = ((({ U with heap := s₂.heap, slotsUsed := s₂.slotsUsed } : State).setVm s₂.vm).setTop g).pushFrame (.throwing q) := by
      refine e3.trans ?_
      rw [hf₂, State.calling_eq h.top, State.setFrames_setFrames, State.pushFrame, State.frames_setTop _ hr', State.setTop_of_frames _ hr', State.setFrames_setFrames, hr]
      rfl
    have hsame : U.sameButNew ({ U with heap := s₂.heap, slotsUsed := s₂.slotsUsed } : State) L mc ms := by
      refine ⟨?_, q2, q3, q4, q5, q6⟩
      obtain ⟨t, ht, -⟩ := State.frames_cons hr
      show ({ U with heap := s₂.heap, slotsUsed := s₂.slotsUsed } : State) = { U.setFrames U.frames with heap := s₂.heap, slotsUsed := s₂.slotsUsed }
      rw [State.setFrames_self ht]
    subst hg
    refine Or.inr ⟨q, ⟨(({ U with heap := s₂.heap, slotsUsed := s₂.slotsUsed } : State).setVm s₂.vm), Ls ++ L, c0 + mc, s0 + ms⟩,
      ⟨X.admits, X.cas, X.clock, X.frames, X.room, X.hears, X.method, X.code, (X.here.setHeapUsed s₂.heap s₂.slotsUsed).setVm hW'.alike, X.tail, State.WarmedH.trans X.warmed hW', X.limits, X.bytes, X.same.trans (hsame.setVm s.vm)⟩,
      ⟨g, mk, s₂, L, E, ce, rfl, rfl, hx, hce, hcv, hcl, rfl, hL, rfl, rfl⟩, ?_⟩
    show Steps p.tables e below _ (((({ U with heap := s₂.heap, slotsUsed := s₂.slotsUsed } : State).setVm s₂.vm).setTop g).pushFrame (.throwing q))
    rw [← hs₂]
    exact hsteps
end
variable {p : Program} {l : Launch} {e : Env} {R : Room} {s : State} {m : MethodId} {args : Array Value} {below : List Frame} {meth : Method} {c : Code} {T : State} {H : Heap} {locs : List Loc} {cells slots : Nat}
theorem vx_callVX (X : Stand p l e R s m args below meth c T locs cells slots) (hexec : p.tables.exec = Jvm.exec) {own C : String} {index : Nat} {y : MethodName} {bytes : ByteArray} {maxL : Nat} {ret : Option FieldType} {hh : List (Nat × Nat × Nat × Nat)}
    (hown : s.vm.findClass own = some m.cls) (hlink : (Cond.methodLink own index y).before args s = true) (hinst : (Cond.instanceMethod y).before args s = true) (hsel : (Cond.selects C y y).before args s = true)
    (hcode : (Cond.codeWith y bytes maxL ret hh).before args s = true) (hy : y.cls ≠ "java/lang/invoke/MethodHandle" ∧ y.cls ≠ "java/lang/invoke/VarHandle")
    {W9 : Nat} {Pre : Pt → Array Value → Prop} {Post : Pt → Array Value → Option Value → Pt → Prop} {PostX : Pt → Array Value → Addr → Pt → Prop} (hK : vx_Back l R p e below s args y 3 W9 Pre Post PostX)
    {b : Addr} {cellB : Cell} (hcell : T.heap[b]? = some cellB) (hobj : cellB.vm.isStatics = false) (hcls : s.vm.findClass C = some cellB.cls)
    {g : JFrame} (hg : g.method = m) (hsize : g.locals.size = c.maxLocals) {argsL rest : List Value} (hlen : ∀ sig, parseMethodDescriptor y.desc = some sig → argsL.length = sig.parameters.length)
    (hstack : g.stack = argsL.reverse ++ .ref b :: rest) (hW : 2 * g.monitorRoom + (rest.map fun v => v.category).sum ≤ W9) (hdg : decode c.code g.pc = .ok (.invokevirtual index, 3))
    (hpre : ∀ vm₁, s.WarmedH vm₁ → Pre ⟨T.setVm vm₁, locs, cells, slots⟩ (Value.ref b :: argsL).toArray) :
    (∃ (v : Option Value) (vm₁ : Vm) (B : Pt), s.WarmedH vm₁ ∧ Stand p l e R s m args below meth c B.U B.locs B.cells B.slots ∧ Post ⟨T.setVm vm₁, locs, cells, slots⟩ (Value.ref b :: argsL).toArray v B ∧
      ∀ target, Steps p.tables e below (B.U.setTop { g with pc := g.pc + 3, stack := v.toList ++ rest }) target → Steps p.tables e below (T.setTop g) target) ∨
    (∃ (q : Addr) (vm₁ : Vm) (B : Pt), s.WarmedH vm₁ ∧ Stand p l e R s m args below meth c B.U B.locs B.cells B.slots ∧ PostX ⟨T.setVm vm₁, locs, cells, slots⟩ (Value.ref b :: argsL).toArray q B ∧
      Steps p.tables e below (T.setTop g) ((B.U.setTop { g with stack := rest }).pushFrame (.throwing q))) := by
  obtain ⟨mk, methM, hnamed, hmethM, hstM, habM⟩ := Cond.instanceMethod_spec hinst
  obtain ⟨m8, methM', cM, hn8, hmethM', -, -, -, -, -, -, hsigM⟩ := Cond.codeWith_spec hcode
  cases Option.some.inj (hn8.symm.trans hnamed)
  cases hmethM.symm.trans hmethM'
  obtain ⟨c2, r2, m2, q1, q2, q3, q4, kP, hkP, hkPi⟩ := Cond.selects_spec hsel
  cases hcls.symm.trans q1
  cases (State.methodFound?_of_named hnamed hy).symm.trans q2
  cases hnamed.symm.trans q3
  have hselP : selectMethod e.platform s.vm cellB.cls mk = .method mk := by rw [Launch.admits_selectMethod X.admits]; exact q4
  obtain ⟨vm₁, X₁, hstep₁⟩ := X.invokevirtual hexec hown hlink hnamed hmethM hstM hkP hkPi hy (a := b) (cell := cellB) hcell
    (fun z h => by rw [h] at hobj; cases hobj) hselP hmethM habM hkP hkPi (g := g) hg (argsL := argsL) (rest := rest) (hlen _ hsigM) hstack hdg
  rcases hK m meth c ⟨T.setVm vm₁, locs, cells, slots⟩ { g with stack := rest } (.invokevirtual index) mk (Value.ref b :: argsL).toArray X₁ hg hsize hdg hW (X₁.named hnamed) (hpre vm₁ X₁.warmed) with ⟨v, B, X', hpost, hsteps⟩ | ⟨q, B, X', hpost, hsteps⟩
  · exact Or.inl ⟨v, vm₁, B, X₁.warmed, X', hpost, fun target h => hstep₁ _ fun acts => by rw [doInvoke_state]; exact hsteps.trans h⟩
  · exact Or.inr ⟨q, vm₁, B, X₁.warmed, X', hpost, hstep₁ _ fun acts => by rw [doInvoke_state]; exact hsteps⟩
theorem vx_callSX (X : Stand p l e R s m args below meth c T locs cells slots) (hexec : p.tables.exec = Jvm.exec) {own : String} {index : Nat} {y : MethodName} {bytes : ByteArray} {maxL : Nat} {ret : Option FieldType} {hh : List (Nat × Nat × Nat × Nat)}
    (hown : s.vm.findClass own = some m.cls) (hlink : (Cond.methodLink own index y).before args s = true) (hstat : (Cond.static y).before args s = true) (hinit : (Cond.initialized y.cls).before args s = true)
    (hcode : (Cond.codeWith y bytes maxL ret hh).before args s = true) (hy : y.cls ≠ "java/lang/invoke/MethodHandle" ∧ y.cls ≠ "java/lang/invoke/VarHandle")
    {W9 : Nat} {Pre : Pt → Array Value → Prop} {Post : Pt → Array Value → Option Value → Pt → Prop} {PostX : Pt → Array Value → Addr → Pt → Prop} (hK : vx_Back l R p e below s args y 3 W9 Pre Post PostX)
    {g : JFrame} (hg : g.method = m) (hsize : g.locals.size = c.maxLocals) {argsL rest : List Value} (hlen : ∀ sig, parseMethodDescriptor y.desc = some sig → argsL.length = sig.parameters.length)
    (hstack : g.stack = argsL.reverse ++ rest) (hW : 2 * g.monitorRoom + (rest.map fun v => v.category).sum ≤ W9) (hdg : decode c.code g.pc = .ok (.invokestatic index, 3))
    (hpre : ∀ vm₁, s.WarmedH vm₁ → Pre ⟨T.setVm vm₁, locs, cells, slots⟩ argsL.toArray) :
    (∃ (v : Option Value) (vm₁ : Vm) (B : Pt), s.WarmedH vm₁ ∧ Stand p l e R s m args below meth c B.U B.locs B.cells B.slots ∧ Post ⟨T.setVm vm₁, locs, cells, slots⟩ argsL.toArray v B ∧
      ∀ target, Steps p.tables e below (B.U.setTop { g with pc := g.pc + 3, stack := v.toList ++ rest }) target → Steps p.tables e below (T.setTop g) target) ∨
    (∃ (q : Addr) (vm₁ : Vm) (B : Pt), s.WarmedH vm₁ ∧ Stand p l e R s m args below meth c B.U B.locs B.cells B.slots ∧ PostX ⟨T.setVm vm₁, locs, cells, slots⟩ argsL.toArray q B ∧
      Steps p.tables e below (T.setTop g) ((B.U.setTop { g with stack := rest }).pushFrame (.throwing q))) := by
  obtain ⟨mk, methM, cM, hnamed, hmethM, -, -, -, -, -, -, hsigM⟩ := Cond.codeWith_spec hcode
  have hstatic : methM.isStatic = true := Cond.static_spec hnamed hmethM hstat
  obtain ⟨kP, hkP, -⟩ := className_of_methodNamed hnamed
  have hinitP : kP.init = .initialized := Cond.initialized_spec (findClass_of_methodNamed hnamed) hkP hinit
  obtain ⟨vm₁, X₁, hstep₁⟩ := X.invokestatic hexec hown hlink hnamed hmethM hstatic hkP hinitP hy (g := g) hg (argsL := argsL) (rest := rest) (hlen _ hsigM) hstack hdg
  rcases hK m meth c ⟨T.setVm vm₁, locs, cells, slots⟩ { g with stack := rest } (.invokestatic index) mk argsL.toArray X₁ hg hsize hdg hW (X₁.named hnamed) (hpre vm₁ X₁.warmed) with ⟨v, B, X', hpost, hsteps⟩ | ⟨q, B, X', hpost, hsteps⟩
  · exact Or.inl ⟨v, vm₁, B, X₁.warmed, X', hpost, fun target h => hstep₁ _ fun acts => by rw [doInvoke_state]; exact hsteps.trans h⟩
  · exact Or.inr ⟨q, vm₁, B, X₁.warmed, X', hpost, hstep₁ _ fun acts => by rw [doInvoke_state]; exact hsteps⟩
theorem vx_callVW (X : Stand p l e R s m args below meth c T locs cells slots) (hexec : p.tables.exec = Jvm.exec) {own C : String} {index : Nat} {y : MethodName} {bytes : ByteArray} {maxL : Nat} {ret : Option FieldType} {hh : List (Nat × Nat × Nat × Nat)}
    (hown : s.vm.findClass own = some m.cls) (hlink : (Cond.methodLink own index y).before args s = true) (hinst : (Cond.instanceMethod y).before args s = true) (hsel : (Cond.selects C y y).before args s = true)
    (hcode : (Cond.codeWith y bytes maxL ret hh).before args s = true) (hy : y.cls ≠ "java/lang/invoke/MethodHandle" ∧ y.cls ≠ "java/lang/invoke/VarHandle")
    {W9 : Nat} {Pre : Pt → Array Value → Prop} {Post : Pt → Array Value → Option Value → Pt → Prop} (hK : Back l R p e below s args y 3 W9 Pre Post)
    {b : Addr} {cellB : Cell} (hcell : T.heap[b]? = some cellB) (hobj : cellB.vm.isStatics = false) (hcls : s.vm.findClass C = some cellB.cls)
    {g : JFrame} (hg : g.method = m) (hsize : g.locals.size = c.maxLocals) {argsL rest : List Value} (hlen : ∀ sig, parseMethodDescriptor y.desc = some sig → argsL.length = sig.parameters.length)
    (hstack : g.stack = argsL.reverse ++ .ref b :: rest) (hW : 2 * g.monitorRoom + (rest.map fun v => v.category).sum ≤ W9) (hdg : decode c.code g.pc = .ok (.invokevirtual index, 3))
    (hpre : ∀ vm₁, s.WarmedH vm₁ → Pre ⟨T.setVm vm₁, locs, cells, slots⟩ (Value.ref b :: argsL).toArray) :
    ∃ (v : Option Value) (vm₁ : Vm) (B : Pt), s.WarmedH vm₁ ∧ Stand p l e R s m args below meth c B.U B.locs B.cells B.slots ∧ Post ⟨T.setVm vm₁, locs, cells, slots⟩ (Value.ref b :: argsL).toArray v B ∧
      ∀ target, Steps p.tables e below (B.U.setTop { g with pc := g.pc + 3, stack := v.toList ++ rest }) target → Steps p.tables e below (T.setTop g) target := by
  obtain ⟨mk, methM, hnamed, hmethM, hstM, habM⟩ := Cond.instanceMethod_spec hinst
  obtain ⟨m8, methM', cM, hn8, hmethM', -, -, -, -, -, -, hsigM⟩ := Cond.codeWith_spec hcode
  cases Option.some.inj (hn8.symm.trans hnamed)
  cases hmethM.symm.trans hmethM'
  obtain ⟨c2, r2, m2, q1, q2, q3, q4, kP, hkP, hkPi⟩ := Cond.selects_spec hsel
  cases hcls.symm.trans q1
  cases (State.methodFound?_of_named hnamed hy).symm.trans q2
  cases hnamed.symm.trans q3
  have hselP : selectMethod e.platform s.vm cellB.cls mk = .method mk := by rw [Launch.admits_selectMethod X.admits]; exact q4
  obtain ⟨vm₁, X₁, hstep₁⟩ := X.invokevirtual hexec hown hlink hnamed hmethM hstM hkP hkPi hy (a := b) (cell := cellB) hcell
    (fun z h => by rw [h] at hobj; cases hobj) hselP hmethM habM hkP hkPi (g := g) hg (argsL := argsL) (rest := rest) (hlen _ hsigM) hstack hdg
  obtain ⟨v, B, X', hpost, hsteps⟩ := hK m meth c ⟨T.setVm vm₁, locs, cells, slots⟩ { g with stack := rest } (.invokevirtual index) mk (Value.ref b :: argsL).toArray X₁ hg hsize hdg hW (X₁.named hnamed) (hpre vm₁ X₁.warmed)
  exact ⟨v, vm₁, B, X₁.warmed, X', hpost, fun target h => hstep₁ _ fun acts => by rw [doInvoke_state]; exact hsteps.trans h⟩
abbrev vx_CVW (R : Room) (s : State) (args : Array Value) (own C : String) (index : Nat) (y : MethodName) (bytes : ByteArray) (maxL : Nat) (ret : Option FieldType) (hh : List (Nat × Nat × Nat × Nat)) (ws : List Cond) (rm : Room) (mc ms n : Nat) : Prop :=
  (rm.cells = mc ∧ rm.slots = ms ∧ rm.frames + 1 ≤ R.frames ∧ 8 + (maxL + 11) + rm.locals ≤ R.locals ∧ (∀ w ∈ ws, ∀ (a' : Array Value) (U : State), s.WarmedH U.vm → w.before a' U = true) ∧ Cond.codeWith y bytes maxL ret hh ∈ ws) ∧
  (Cond.codeWith y bytes maxL ret hh).before args s = true ∧ (Cond.initialized y.cls).before args s = true ∧ (y.cls ≠ "java/lang/invoke/MethodHandle" ∧ y.cls ≠ "java/lang/invoke/VarHandle") ∧
  (∀ sig, parseMethodDescriptor y.desc = some sig → n = sig.parameters.length) ∧ (Cond.methodLink own index y).before args s = true ∧ (Cond.instanceMethod y).before args s = true ∧ (Cond.selects C y y).before args s = true
theorem vx_cwVW {own C : String} {index maxL mc ms : Nat} {y : MethodName} {bytes : ByteArray} {ret : Option FieldType} {hh : List (Nat × Nat × Nat × Nat)} {Ts ws ws' : List Cond} {rm : Room} (n : Nat) (ht : ∀ w ∈ Ts, w.before args s = true) (hT : GoodIn Ts (wsV own index C y ws)) (hw : ws = Cond.codeWith y bytes maxL ret hh :: ws') (hrc : rm.cells = mc) (hrs : rm.slots = ms)
    (hd : y.cls = C ∧ y.cls ≠ "java/lang/invoke/MethodHandle" ∧ y.cls ≠ "java/lang/invoke/VarHandle" ∧ (parseMethodDescriptor y.desc).map (fun d => d.parameters.length) = some n) (hR : rm.frames + 1 ≤ R.frames ∧ 8 + (maxL + 11) + rm.locals ≤ R.locals) :
    vx_CVW R s args own C index y bytes maxL ret hh ws rm mc ms n := by
  obtain ⟨hC, hd⟩ := hd
  subst hC
  have ok : ∀ w ∈ wsV own index y.cls y ws, w.before args s = true := fun w h => ht w (hT w h).1
  have hG : GoodIn Ts ws := fun w h => hT w (by unfold wsV; exact List.mem_append_right _ h)
  have hc : Cond.codeWith y bytes maxL ret hh ∈ ws := by rw [hw]; exact List.mem_cons_self
  refine ⟨⟨hrc, hrs, hR.1, hR.2, pay_in ht hG, hc⟩, ht _ (hG _ hc).1, ok _ (by simp [wsV]), ⟨hd.1, hd.2.1⟩, fun sig h => ?_, ok _ (by simp [wsV]), ok _ (by simp [wsV]), ok _ (by simp [wsV])⟩
  have h2 := hd.2.2
  rw [h] at h2
  exact (Option.some.inj h2).symm
theorem vx_runVW {y : MethodName} {bytes cc : ByteArray} {maxL nL mc ms n index : Nat} {ret : Option FieldType} {hh : List (Nat × Nat × Nat × Nat)} {ws : List Cond} {rm : Room} {Pc : Array Value → State → Prop} {Qc : Array Value → State → Outcome → State → Prop} {free : Addr → Prop} {Ts : List Cond} {own C : String} {b : Addr} {As rest : List Value} {g : JFrame}
    (S : CallFix p m c cc nL s args Ts own) (hM : Met l y ws rm Pc Qc mc ms free) (cw : vx_CVW R s args own C index y bytes maxL ret hh ws rm mc ms n) (hp : PreV s H C b Pc As)
    (hg : g.method = m) (hn : As.length = n) (hsize : g.locals.size = nL) (hstack : g.stack = As.reverse ++ .ref b :: rest) (hW : 2 * g.monitorRoom + (rest.map fun v => v.category).sum ≤ 8) (hdg : decode cc g.pc = .ok (.invokevirtual index, 3)) (hf : cells + mc ≤ R.cells ∧ slots + ms ≤ R.slots) :
    va_Run p l e R s m args below meth c H locs cells slots mc ms g rest (Qc (Value.ref b :: As).toArray) free := by
  obtain ⟨⟨hrc, hrs, hfr, hlo, hws, hcw⟩, hcode, hini, hy, hlen, hl, hin, hse⟩ := cw
  have hK : Back l R p e below s args y 3 8 (PreOf R mc ms Pc) (PostOf Qc mc ms free) := va_backW (hh := hh) (bytes := bytes) (maxL := maxL) (ret := ret) hM hp.1 hrc hrs hfr hlo hws hcw (fun a' U hW => word_at hW (Or.inl (by first | rfl | simp [Cond.onTables, Cond.keeps, Cond.steady])) hini)
  obtain ⟨hx, hb, hml, ho, -⟩ := S
  obtain ⟨-, ⟨cellB, hcB, hoB, hclB⟩, hPc⟩ := hp
  intro T hT X
  obtain ⟨v, vm₁, ⟨U', l2, c2, s2⟩, hW₁, X', ⟨g', mk, t, L, e1, e2, hq, h1, hL, h2, h3⟩, st⟩ := vx_callVW X hx (C := C) (hh := hh) (bytes := bytes) (maxL := maxL) (ret := ret) ho hl hin hse hcode hy hK (by rw [hT]; exact hcB) hoB hclB hg (hsize.trans hml.symm) (argsL := As) (rest := rest) (fun sig h => hn.trans (hlen sig h)) hstack hW (by rw [hb]; exact hdg)
    (fun vm₁ hW₁ => ⟨hf.1, hf.2, hPc (T.setVm vm₁) hT hW₁⟩)
  dsimp only [Pt.U, Pt.locs, Pt.cells, Pt.slots] at X' e1 e2 h1 h2 h3 st
  subst h1; subst h2; subst h3
  exact ⟨v, (T.setVm vm₁).calling g' mk (Value.ref b :: As).toArray, t, U', L, hT, X', hL, e1, e2, hq, st⟩
section
variable {y : MethodName} {bytes cc : ByteArray} {maxL nL mc ms n index : Nat} {ret : Option FieldType} {ws : List Cond} {rm : Room} {Pc : Array Value → State → Prop} {Qc : Array Value → State → Outcome → State → Prop} {XC : String → State → State → Prop} {free : Addr → Prop} {Ts : List Cond} {own C : String} {b : Addr} {As rest : List Value} {g : JFrame}
theorem vx_runVX {hh : List (Nat × Nat × Nat × Nat)} (S : CallFix p m c cc nL s args Ts own) (hM : vx_Met l y ws rm Pc Qc XC mc ms free) (cw : vx_CVW R s args own C index y bytes maxL ret hh ws rm mc ms n) (hp : PreV s H C b Pc As)
    (hg : g.method = m) (hn : As.length = n) (hsize : g.locals.size = nL) (hstack : g.stack = As.reverse ++ .ref b :: rest) (hW : 2 * g.monitorRoom + (rest.map fun v => v.category).sum ≤ 8) (hdg : decode cc g.pc = .ok (.invokevirtual index, 3)) (hf : cells + mc ≤ R.cells ∧ slots + ms ≤ R.slots) :
    vx_Run p l e R s m args below meth c H locs cells slots mc ms g rest (Qc (Value.ref b :: As).toArray) XC free := by
  obtain ⟨⟨hrc, hrs, hfr, hlo, hws, hcw⟩, hcode, hini, hy, hlen, hl, hin, hse⟩ := cw
  have hK : vx_Back l R p e below s args y 3 8 (PreOf R mc ms Pc) (PostOf Qc mc ms free) (vx_Post XC mc ms free) := vx_backW (hh := hh) (bytes := bytes) (maxL := maxL) (ret := ret) hM hp.1 hrc hrs hfr hlo hws hcw (fun a' U hW => word_at hW (Or.inl (by first | rfl | simp [Cond.onTables, Cond.keeps, Cond.steady])) hini)
  obtain ⟨hx, hb, hml, ho, -⟩ := S
  obtain ⟨-, ⟨cellB, hcB, hoB, hclB⟩, hPc⟩ := hp
  intro T hT X
  rcases vx_callVX X hx (C := C) (hh := hh) (bytes := bytes) (maxL := maxL) (ret := ret) ho hl hin hse hcode hy hK (by rw [hT]; exact hcB) hoB hclB hg (hsize.trans hml.symm) (argsL := As) (rest := rest) (fun sig h => hn.trans (hlen sig h)) hstack hW (by rw [hb]; exact hdg)
    (fun vm₁ hW₁ => ⟨hf.1, hf.2, hPc (T.setVm vm₁) hT hW₁⟩) with ⟨v, vm₁, ⟨U', l2, c2, s2⟩, hW₁, X', ⟨g', mk, t, L, e1, e2, hq, h1, hL, h2, h3⟩, st⟩ | ⟨q, vm₁, ⟨U', l2, c2, s2⟩, hW₁, X', ⟨g', mk, t, L, E, ce, e1, e2, hq, hce, hcv, hcl, h1, hL, h2, h3⟩, st⟩
  · dsimp only [Pt.U, Pt.locs, Pt.cells, Pt.slots] at X' e1 e2 h1 h2 h3 st
    subst h1; subst h2; subst h3
    exact Or.inl ⟨v, (T.setVm vm₁).calling g' mk (Value.ref b :: As).toArray, t, U', L, hT, X', hL, e1, e2, hq, st⟩
  · dsimp only [Pt.U, Pt.locs, Pt.cells, Pt.slots] at X' e1 e2 h1 h2 h3 st hcl
    subst h1; subst h2; subst h3
    exact Or.inr ⟨q, (T.setVm vm₁).calling g' mk (Value.ref b :: As).toArray, t, U', L, E, ce, hT, X', hL, e1, e2, hq, hce, hcv, vx_cls hW₁ hcl, st⟩
theorem vx_runSX {hh : List (Nat × Nat × Nat × Nat)} (S : CallFix p m c cc nL s args Ts own) (hM : vx_Met l y ws rm Pc Qc XC mc ms free) (cw : vx_CSW R s args own index y bytes maxL ret hh ws rm mc ms n) (hp : PreS s H Pc As)
    (hg : g.method = m) (hn : As.length = n) (hsize : g.locals.size = nL) (hstack : g.stack = As.reverse ++ rest) (hW : 2 * g.monitorRoom + (rest.map fun v => v.category).sum ≤ 8) (hdg : decode cc g.pc = .ok (.invokestatic index, 3)) (hf : cells + mc ≤ R.cells ∧ slots + ms ≤ R.slots) :
    vx_Run p l e R s m args below meth c H locs cells slots mc ms g rest (Qc As.toArray) XC free := by
  obtain ⟨⟨hrc, hrs, hfr, hlo, hws, hcw⟩, hcode, hini, hy, hlen, hl, hstt⟩ := cw
  have hK : vx_Back l R p e below s args y 3 8 (PreOf R mc ms Pc) (PostOf Qc mc ms free) (vx_Post XC mc ms free) := vx_backW (hh := hh) (bytes := bytes) (maxL := maxL) (ret := ret) hM hp.1 hrc hrs hfr hlo hws hcw (fun a' U hW => word_at hW (Or.inl (by first | rfl | simp [Cond.onTables, Cond.keeps, Cond.steady])) hini)
  obtain ⟨hx, hb, hml, ho, -⟩ := S
  intro T hT X
  rcases vx_callSX X hx (hh := hh) (bytes := bytes) (maxL := maxL) (ret := ret) ho hl hstt hini hcode hy hK hg (hsize.trans hml.symm) (argsL := As) (rest := rest) (fun sig h => hn.trans (hlen sig h)) hstack hW (by rw [hb]; exact hdg)
    (fun vm₁ hW₁ => ⟨hf.1, hf.2, hp.2 (T.setVm vm₁) hT hW₁⟩) with ⟨v, vm₁, ⟨U', l2, c2, s2⟩, hW₁, X', ⟨g', mk, t, L, e1, e2, hq, h1, hL, h2, h3⟩, st⟩ | ⟨q, vm₁, ⟨U', l2, c2, s2⟩, hW₁, X', ⟨g', mk, t, L, E, ce, e1, e2, hq, hce, hcv, hcl, h1, hL, h2, h3⟩, st⟩
  · dsimp only [Pt.U, Pt.locs, Pt.cells, Pt.slots] at X' e1 e2 h1 h2 h3 st
    subst h1; subst h2; subst h3
    exact Or.inl ⟨v, (T.setVm vm₁).calling g' mk As.toArray, t, U', L, hT, X', hL, e1, e2, hq, st⟩
  · dsimp only [Pt.U, Pt.locs, Pt.cells, Pt.slots] at X' e1 e2 h1 h2 h3 st hcl
    subst h1; subst h2; subst h3
    exact Or.inr ⟨q, (T.setVm vm₁).calling g' mk As.toArray, t, U', L, E, ce, hT, X', hL, e1, e2, hq, hce, hcv, vx_cls hW₁ hcl, st⟩
end
end VXH
theorem vx_ofWH {l : Launch} {y : MethodName} {ws ws' : List Cond} {rm : Room} {Pc : Array Value → State → Prop} {Qc : Array Value → State → Outcome → State → Prop} {XC : String → State → State → Prop} {mc ms : Nat} {free : Addr → Prop} {cc : ByteArray} {maxL : Nat} {ret : Option FieldType} {hh : List (Nat × Nat × Nat × Nat)}
    (hy : plainName y.cls = true) (hw : ws = Cond.codeWith y cc maxL ret hh :: ws')
    (body : ∀ p e s m args below meth c s₁, BodyLoose p l y (headSpec ws rm) cc maxL ret e s m args below meth c s₁ → c.maxLocals = maxL → Pc args s →
      W p l e (headSpec ws rm).room s m args below meth c s.heap [] 0 0 (vx_MQ below Qc XC args s mc ms free) (entryFrame m args maxL)) : vx_Met l y ws rm Pc Qc XC mc ms free := by
  refine MetFree.of_bodyS (code := cc) (maxLocals := maxL) (ret := ret) hy ?_ ?_
  · intro args s m h hn
    obtain ⟨m9, meth, c, hn9, h1, h2, h3, h4, -, h5, h6, -⟩ := Cond.codeWith_spec (atoms_spec (ws := ws) h _ (by rw [hw]; exact List.mem_cons_self))
    cases hn.symm.trans hn9
    exact ⟨meth, c, h1, h2, h3, h4, h5, h6⟩
  · intro p e s m args below meth c s₁ B hml hP _
    have hh0 : s₁.heap = s.heap := by rw [B.state]; rfl
    obtain ⟨t, a1, o, b1, b2, b3⟩ := body p e s m args below meth c s₁ B hml hP s₁ hh0 (Stand.of_body B)
    exact ⟨t, o, a1, b1, b2, b3⟩
/-! ===== END ===== -/
end
section
/-! calls -/
def xcal1 (X : XP) (l : Launch) (R : Room) (own : String) (ac as : Nat) (q : Nat × Nat × Nat × Nat × XF) : Prop :=
  ∃ (y : MethodName) (bytes : ByteArray) (maxL : Nat) (ret : Option FieldType) (rm : Room) (mc ms : Nat), Ctr X l y bytes maxL ret rm mc ms q.2.2.2.2 ∧ rm.cells = mc ∧ rm.slots = ms ∧ mc ≤ ac ∧ ms ≤ as ∧
    Cond.code y bytes maxL ret ∈ xG ∧ Cond.methodLink own q.1 y ∈ xG ∧ Cond.initialized y.cls ∈ xG ∧ (y.cls ≠ "java/lang/invoke/MethodHandle" ∧ y.cls ≠ "java/lang/invoke/VarHandle") ∧ rm.frames + 1 ≤ R.frames ∧ 8 + (maxL + 11) + rm.locals ≤ R.locals ∧
    ((q.2.2.2.1 = 99 ∧ Cond.static y ∈ xG ∧ (parseMethodDescriptor y.desc).map (fun d => d.parameters.length) = some q.2.2.1) ∨
     (q.2.2.2.1 ≠ 99 ∧ Cond.instanceMethod y ∈ xG ∧ Cond.selects y.cls y y ∈ xG ∧ y.cls = xcn q.2.2.2.1 ∧ ∃ n, q.2.2.1 = n + 1 ∧ (parseMethodDescriptor y.desc).map (fun d => d.parameters.length) = some n))
/-- the contract of a method with a table of handlers -/
def CtrW (X : XP) (l : Launch) (y : MethodName) (bytes : ByteArray) (maxL : Nat) (ret : Option FieldType) (hh : List (Nat × Nat × Nat × Nat)) (rm : Room) (mc ms : Nat) (F : XF) : Prop :=
  ∀ (av : List XV) (μ : XM) (r : Option XV) (μ' : XM), (∀ v ∈ av, xok v) → F av μ = some (r, μ') →
    Met l y (Cond.codeWith y bytes maxL ret hh :: xG) rm (va_Pc (av.map (xc X)) (XW X μ)) (xQ X r μ') mc ms (xA X)
def xcal2 (X : XP) (l : Launch) (R : Room) (own : String) (ac as : Nat) (q : Nat × Nat × Nat × Nat × XF) : Prop :=
  ∃ (y : MethodName) (bytes : ByteArray) (maxL : Nat) (ret : Option FieldType) (hh : List (Nat × Nat × Nat × Nat)) (rm : Room) (mc ms : Nat), CtrW X l y bytes maxL ret hh rm mc ms q.2.2.2.2 ∧ rm.cells = mc ∧ rm.slots = ms ∧ mc ≤ ac ∧ ms ≤ as ∧
    Cond.codeWith y bytes maxL ret hh ∈ xG ∧ Cond.methodLink own q.1 y ∈ xG ∧ Cond.initialized y.cls ∈ xG ∧ (y.cls ≠ "java/lang/invoke/MethodHandle" ∧ y.cls ≠ "java/lang/invoke/VarHandle") ∧ rm.frames + 1 ≤ R.frames ∧ 8 + (maxL + 11) + rm.locals ≤ R.locals ∧
    (q.2.2.2.1 = 99 ∧ Cond.static y ∈ xG ∧ (parseMethodDescriptor y.desc).map (fun d => d.parameters.length) = some q.2.2.1)
def xcal (X : XP) (l : Launch) (R : Room) (own : String) (ac as : Nat) (q : Nat × Nat × Nat × Nat × XF) : Prop := xcal1 X l R own ac as q ∨ xcal2 X l R own ac as q
theorem xpop_some : ∀ (a : Nat) (acc st : List XV) (as rest : List XV), xpop a acc st = some (as, rest) → ∃ bs, as = bs ++ acc ∧ bs.length = a ∧ st = bs.reverse ++ rest := by
  intro a
  induction a with
  | zero => intro acc st as rest h; simp only [xpop, Option.some.injEq, Prod.mk.injEq] at h; exact ⟨[], by rw [← h.1]; rfl, rfl, by rw [← h.2]; rfl⟩
  | succ a ih =>
    intro acc st as rest h
    cases st with
    | nil => simp [xpop] at h
    | cons v st =>
      obtain ⟨bs, h1, h2, h3⟩ := ih (v :: acc) st as rest h
      exact ⟨bs ++ [v], by rw [h1]; simp, by simp [h2], by rw [h3]; simp⟩
theorem xsum_xc (X : XP) (st : List XV) : ((st.map (xc X)).map fun v => v.category).sum = xsum st := by
  unfold xsum
  congr 1
  rw [List.map_map]
  apply List.map_congr_left
  intro v _
  exact xc_cat X v
theorem xG_GoodIn {y : MethodName} {bytes : ByteArray} {maxL : Nat} {ret : Option FieldType} (h : Cond.code y bytes maxL ret ∈ xG) : GoodIn xG (Cond.code y bytes maxL ret :: xG) := by
  intro w hw
  rcases List.mem_cons.mp hw with rfl | hw
  · exact ⟨h, good_of_word (xG_good _ h)⟩
  · exact ⟨hw, good_of_word (xG_good _ hw)⟩
section
variable {p : Program} {l : Launch} {e : Env} {R : Room} {s : State} {m : MethodId} {args : Array Value} {below : List Frame} {meth : Method} {c : Code} {Z : State → Prop} {cc : ByteArray} {own : String} {X : XP} {nL : Nat} {μ : XM} {H : Heap} {locs : List Loc} {cells slots pc : Nat} {ls : Array Slot} {rest : List XV}
theorem xC_now (C : XCt X p R s m args c cc own nL) (hI : XI X s μ H locs) : xC X s H := C.2.2.2.2.2.2.2.1.2.2.1 s s.heap H hI.2.1.1 hI.2.1.2.1 C.2.2.2.2.2.2.1
theorem xW_now (C : XCt X p R s m args c cc own nL) (hI : XI X s μ H locs) {U : State} (hU : U.heap = H) (hW : s.WarmedH U.vm) : XW X μ U := by
  refine ⟨by rw [hU]; exact hI.1, va_K.moved hW.alike C.2.2.2.2.2.1, ?_, hI.2.2⟩
  rw [hU]
  exact C.2.2.2.2.2.2.2.1.2.1 s U H hW.alike (xC_now C hI)
/-- what comes behind a call -/
theorem xr_back (hI : XI X s μ H locs) {st0 : List Value} {mc ms : Nat} {a : Array Value} {r : Option XV} {μ' : XM} (hr0 : ∀ q, r ≠ some (.inr (.inr q)))
    (hr : va_Run p l e R s m args below meth c H locs cells slots mc ms (F0 m pc ls st0) (rest.map (xc X)) (xQ X r μ' a) (xA X))
    (kk : ∀ H1 locs1, XI X s μ' H1 locs1 → W p l e R s m args below meth c H1 locs1 (cells + mc) (slots + ms) Z (F0 m (pc + 3) ls ((r.toList ++ rest).map (xc X)))) : W p l e R s m args below meth c H locs cells slots Z (F0 m pc ls st0) := by
  rcases r with _ | x | x | q
  · exact va_callv (a := a) hr hI.2.1 (fun _ _ h => h) (fun _ h => h) (fun u t H1 locs1 ht hvm hw hB hz hk hS => kk H1 locs1 ⟨by rw [← ht]; exact hB.1, hS, hB.2.2.2⟩)
  · refine va_calli (a := a) hr hI.2.1 (fun _ _ h => h) (fun _ h => h) (fun y u t H1 locs1 ht hvm hw hB hz hk hS => ?_)
    rw [show y = x from hw]
    exact kk H1 locs1 ⟨by rw [← ht]; exact hB.1, hS, hB.2.2.2⟩
  · refine va_calll (a := a) hr hI.2.1 (fun _ _ h => h) (fun _ h => h) (fun y u t H1 locs1 ht hvm hw hB hz hk hS => ?_)
    rw [show y = x from hw]
    exact kk H1 locs1 ⟨by rw [← ht]; exact hB.1, hS, hB.2.2.2⟩
  · exact absurd rfl (hr0 q)
theorem xr_callV (C : XCt X p R s m args c cc own nL) (hls : ls.size = nL) (hI : XI X s μ H locs) {ac as idx rk na tg : Nat} {F : XF} (hcal : xcal X l R own ac as (idx, rk, na, tg, F)) (htg : tg ≠ 99) {i : Nat} {bs : List XV} (hok : ∀ v ∈ (xr tg i 0 :: bs), xok v) (hlen : bs.length + 1 = na) {r : Option XV} {μ' : XM} (hr0 : ∀ q, r ≠ some (.inr (.inr q))) (hF : F (xr tg i 0 :: bs) μ = some (r, μ'))
    (hsum : xsum rest ≤ 8) (hdg : decode cc pc = .ok (.invokevirtual idx, 3)) (hcap : cells + ac ≤ R.cells ∧ slots + as ≤ R.slots)
    (kk : ∀ mc ms H1 locs1, mc ≤ ac → ms ≤ as → XI X s μ' H1 locs1 → W p l e R s m args below meth c H1 locs1 (cells + mc) (slots + ms) Z (F0 m (pc + 3) ls ((r.toList ++ rest).map (xc X)))) :
    W p l e R s m args below meth c H locs cells slots Z (F0 m pc ls ((bs.reverse ++ xr tg i 0 :: rest).map (xc X))) := by
  replace hcal : xcal1 X l R own ac as (idx, rk, na, tg, F) := by
    rcases hcal with hcal | ⟨y, bytes, maxL, ret, hh, rm, mc, ms, -, -, -, -, -, -, -, -, -, -, -, z, -⟩
    · exact hcal
    · exact absurd z htg
  obtain ⟨y, bytes, maxL, ret, rm, mc, ms, hCtr, hrc, hrs, hmc, hms, hcode, hlink, hini, hy, hfr, hlo, hkind⟩ := hcal
  rcases hkind with ⟨z, -⟩ | ⟨-, hinst, hsel, hycl, n, hn, hpar⟩
  · exact absurd z htg
  have hts := C.2.2.2.2.1
  have hX := C.2.2.2.2.2.2.2.1
  have hMet := hCtr (xr tg i 0 :: bs) μ r μ' hok hF
  have hrecv : ∃ cellB : Cell, H[xad X (tg, i, 0)]? = some cellB ∧ cellB.vm.isStatics = false ∧ s.vm.findClass y.cls = some cellB.cls := by
    have ho : (tg, i, 0) ∈ xdom ∨ (tg, i, 0) = (13, 0, 1) ∨ (tg = 15 ∧ i < 2 ∧ 0 = 0) := hok (xr tg i 0) List.mem_cons_self
    rcases ho with ho | ho | ⟨rfl, hi, -⟩
    · obtain ⟨q0, hq0⟩ := xpos ho
      have he := xws_get X μ hq0
      have ht : tg < 13 := by
        have h0 : xdom.all (fun q => match q with | (t, _, 0) => decide (t < 13) | _ => true) = true := by decide +kernel
        exact of_decide_eq_true (List.all_eq_true.mp h0 _ ho)
      obtain ⟨C1, T1, N1, hcl⟩ := xcl_of ht
      obtain ⟨cell, g1, g2, g3⟩ := va_recv (q0 := q0) C.2.2.2.2.2.1 hI.1 hcl he
      refine ⟨cell, g1, g2, ?_⟩
      rw [hycl]
      have h15 : ¬ tg = 15 := by omega
      simp only [xcn, if_neg h15, hcl, Option.map_some, Option.getD_some]
      exact g3
    · simp at ho
    · rw [hycl]
      exact hX.2.2.2.2.1 s H i hi (xC_now C hI)
  have hrun := va_runV (p := p) (e := e) (R := R) (m := m) (below := below) (meth := meth) (H := H) (locs := locs) (cells := cells) (slots := slots) (As := bs.map (xc X)) (rest := rest.map (xc X)) (b := xad X (tg, i, 0)) (C := y.cls) (n := n) (index := idx) (g := F0 m pc ls ((bs.reverse ++ xr tg i 0 :: rest).map (xc X))) ⟨C.1, C.2.1, C.2.2.1, C.2.2.2.1, hts⟩ hMet
    ⟨callB_of n hts (xG_GoodIn hcode) rfl hrc hrs (hts _ hini) (hts _ hlink) ⟨hy.1, hy.2, hpar⟩ ⟨hfr, hlo⟩, hts _ hinst, hts _ hsel⟩
    ⟨xW_blind X hX μ _, hrecv, fun U hU hW => ⟨rfl, xW_now C hI hU hW⟩⟩ rfl (by simp at hn ⊢; omega) hls (by simp [xc]) (lv_room (by rw [xsum_xc]; exact hsum)) hdg ⟨by omega, by omega⟩
  exact xr_back hI hr0 hrun (fun H1 locs1 h => kk mc ms H1 locs1 hmc hms h)
theorem xr_callS (C : XCt X p R s m args c cc own nL) (hls : ls.size = nL) (hI : XI X s μ H locs) {ac as idx rk na : Nat} {F : XF} (hcal : xcal X l R own ac as (idx, rk, na, 99, F)) {bs : List XV} (hok : ∀ v ∈ bs, xok v) (hlen : bs.length = na) {r : Option XV} {μ' : XM} (hr0 : ∀ q, r ≠ some (.inr (.inr q))) (hF : F bs μ = some (r, μ'))
    (hsum : xsum rest ≤ 8) (hdg : decode cc pc = .ok (.invokestatic idx, 3)) (hcap : cells + ac ≤ R.cells ∧ slots + as ≤ R.slots)
    (kk : ∀ mc ms H1 locs1, mc ≤ ac → ms ≤ as → XI X s μ' H1 locs1 → W p l e R s m args below meth c H1 locs1 (cells + mc) (slots + ms) Z (F0 m (pc + 3) ls ((r.toList ++ rest).map (xc X)))) :
    W p l e R s m args below meth c H locs cells slots Z (F0 m pc ls ((bs.reverse ++ rest).map (xc X))) := by
  rcases hcal with hcal | ⟨y, bytes, maxL, ret, hh, rm, mc, ms, hCtr, hrc, hrs, hmc, hms, hcode, hlink, hini, hy, hfr, hlo, -, hstat, hpar⟩
  rotate_left
  · have hts := C.2.2.2.2.1
    have hX := C.2.2.2.2.2.2.2.1
    have hMet := hCtr bs μ r μ' hok hF
    have hG : GoodIn xG (va_wsS own idx y (Cond.codeWith y bytes maxL ret hh :: xG)) := by
      intro w hw
      have hw2 : w ∈ xG := by
        simp only [va_wsS, List.cons_append, List.nil_append, List.mem_cons] at hw
        rcases hw with rfl | rfl | rfl | rfl | hw
        · exact hlink
        · exact hstat
        · exact hini
        · exact hcode
        · exact hw
      exact ⟨hw2, good_of_word (xG_good _ hw2)⟩
    have hrun := vx_runSW (p := p) (e := e) (R := R) (m := m) (below := below) (meth := meth) (H := H) (locs := locs) (cells := cells) (slots := slots) (As := bs.map (xc X)) (rest := rest.map (xc X)) (n := na) (index := idx) (g := F0 m pc ls ((bs.reverse ++ rest).map (xc X))) ⟨C.1, C.2.1, C.2.2.1, C.2.2.2.1, hts⟩ hMet
      (vx_cwSW na hts hG rfl hrc hrs ⟨hy.1, hy.2, hpar⟩ ⟨hfr, hlo⟩)
      ⟨xW_blind X hX μ _, fun U hU hW => ⟨rfl, xW_now C hI hU hW⟩⟩ rfl (by simp [hlen]) hls (by simp) (lv_room (by rw [xsum_xc]; exact hsum)) hdg ⟨by omega, by omega⟩
    exact xr_back hI hr0 hrun (fun H1 locs1 h => kk mc ms H1 locs1 hmc hms h)
  obtain ⟨y, bytes, maxL, ret, rm, mc, ms, hCtr, hrc, hrs, hmc, hms, hcode, hlink, hini, hy, hfr, hlo, hkind⟩ := hcal
  obtain ⟨hstat, hpar⟩ : Cond.static y ∈ xG ∧ (parseMethodDescriptor y.desc).map (fun d => d.parameters.length) = some na := by
    rcases hkind with ⟨-, hstat, hpar⟩ | ⟨z, -⟩
    · exact ⟨hstat, hpar⟩
    · exact absurd rfl z
  have hts := C.2.2.2.2.1
  have hX := C.2.2.2.2.2.2.2.1
  have hMet := hCtr bs μ r μ' hok hF
  have hrun := va_runS (p := p) (e := e) (R := R) (m := m) (below := below) (meth := meth) (H := H) (locs := locs) (cells := cells) (slots := slots) (As := bs.map (xc X)) (rest := rest.map (xc X)) (n := na) (index := idx) (g := F0 m pc ls ((bs.reverse ++ rest).map (xc X))) ⟨C.1, C.2.1, C.2.2.1, C.2.2.2.1, hts⟩ hMet
    ⟨callB_of na hts (xG_GoodIn hcode) rfl hrc hrs (hts _ hini) (hts _ hlink) ⟨hy.1, hy.2, hpar⟩ ⟨hfr, hlo⟩, hts _ hstat⟩
    ⟨xW_blind X hX μ _, fun U hU hW => ⟨rfl, xW_now C hI hU hW⟩⟩ rfl (by simp [hlen]) hls (by simp) (lv_room (by rw [xsum_xc]; exact hsum)) hdg ⟨by omega, by omega⟩
  exact xr_back hI hr0 hrun (fun H1 locs1 h => kk mc ms H1 locs1 hmc hms h)
end
end
section
/-! ONE ROW -/
-- the shapes, turned round
theorem cond_inv {α : Type} {b : Bool} {x : Option α} {o : α} (h : (bif b then x else none) = some o) : b = true ∧ x = some o := by
  cases b
  · cases h
  · exact ⟨rfl, h⟩
theorem xo1_inv {f : Int32 → XV} {k : List XV → XR} {st : List XV} {o : Option XV × XM} (h : xo1 f k st = some o) : ∃ x st', st = .inl x :: st' ∧ k (f x :: st') = some o := by
  unfold xo1 at h; split at h
  · exact ⟨_, _, rfl, h⟩
  · cases h
theorem xo1l_inv {f : Int64 → XV} {k : List XV → XR} {st : List XV} {o : Option XV × XM} (h : xo1l f k st = some o) : ∃ x st', st = .inr (.inl x) :: st' ∧ k (f x :: st') = some o := by
  unfold xo1l at h; split at h
  · exact ⟨_, _, rfl, h⟩
  · cases h
theorem xo2_inv {f : Int32 → Int32 → Int32} {k : List XV → XR} {st : List XV} {o : Option XV × XM} (h : xo2 f k st = some o) : ∃ x y st', st = .inl y :: .inl x :: st' ∧ k (xi (f x y) :: st') = some o := by
  unfold xo2 at h; split at h
  · exact ⟨_, _, _, rfl, h⟩
  · cases h
theorem xo2n_inv {f : Int32 → Int32 → Int32} {k : List XV → XR} {st : List XV} {o : Option XV × XM} (h : xo2n f k st = some o) : ∃ x y st', st = .inl y :: .inl x :: st' ∧ ¬ y = 0 ∧ k (xi (f x y) :: st') = some o := by
  unfold xo2n at h; split at h
  · rename_i y x st'
    by_cases hy : y = 0
    · rw [xite_t hy] at h; cases h
    · rw [xite_f hy] at h; exact ⟨_, _, _, rfl, hy, h⟩
  · cases h
theorem xo2l_inv {f : Int64 → Int64 → XV} {k : List XV → XR} {st : List XV} {o : Option XV × XM} (h : xo2l f k st = some o) : ∃ x y st', st = .inr (.inl y) :: .inr (.inl x) :: st' ∧ k (f x y :: st') = some o := by
  unfold xo2l at h; split at h
  · exact ⟨_, _, _, rfl, h⟩
  · cases h
theorem xo2ln_inv {f : Int64 → Int64 → Int64} {k : List XV → XR} {st : List XV} {o : Option XV × XM} (h : xo2ln f k st = some o) : ∃ x y st', st = .inr (.inl y) :: .inr (.inl x) :: st' ∧ ¬ y = 0 ∧ k (xl (f x y) :: st') = some o := by
  unfold xo2ln at h; split at h
  · rename_i y x st'
    by_cases hy : y = 0
    · rw [xite_t hy] at h; cases h
    · rw [xite_f hy] at h; exact ⟨_, _, _, rfl, hy, h⟩
  · cases h
theorem xo2s_inv {f : Int64 → Int32 → Int64} {k : List XV → XR} {st : List XV} {o : Option XV × XM} (h : xo2s f k st = some o) : ∃ x y st', st = .inl y :: .inr (.inl x) :: st' ∧ k (xl (f x y) :: st') = some o := by
  unfold xo2s at h; split at h
  · exact ⟨_, _, _, rfl, h⟩
  · cases h
theorem xldI_inv {L : XL} {a : Nat} {k : XV → XR} {o : Option XV × XM} (h : xldI L a k = some o) : ∃ x, L[a]? = some (some (xi x)) ∧ k (xi x) = some o := by
  unfold xldI at h; split at h
  · exact ⟨_, by assumption, h⟩
  · cases h
theorem xldL_inv {L : XL} {a : Nat} {k : XV → XR} {o : Option XV × XM} (h : xldL L a k = some o) : ∃ x, L[a]? = some (some (xl x)) ∧ k (xl x) = some o := by
  unfold xldL at h; split at h
  · exact ⟨_, by assumption, h⟩
  · cases h
theorem xldR_inv {L : XL} {a : Nat} {k : XV → XR} {o : Option XV × XM} (h : xldR L a k = some o) : ∃ x, L[a]? = some (some (.inr (.inr x))) ∧ k (.inr (.inr x)) = some o := by
  unfold xldR at h; split at h
  · exact ⟨_, by assumption, h⟩
  · cases h
theorem xstI_inv {L : XL} {a b : Nat} {k : XL → List XV → XR} {st : List XV} {o : Option XV × XM} (h : xstI L a b k st = some o) : ∃ x st', st = .inl x :: st' ∧ a < L.length ∧ xsk b a L = true ∧ k ((xdl b a L).set a (some (xi x))) st' = some o := by
  unfold xstI at h; split at h
  · rename_i h1; replace h := cond_inv h; obtain ⟨hk, h⟩ := h; rw [vI_eq] at h; exact ⟨_, _, rfl, (List.getElem?_eq_some_iff.mp h1).1, hk, h⟩
  · cases h
theorem xstR_inv {L : XL} {a b : Nat} {k : XL → List XV → XR} {st : List XV} {o : Option XV × XM} (h : xstR L a b k st = some o) : ∃ x st', st = .inr (.inr x) :: st' ∧ a < L.length ∧ xsk b a L = true ∧ k ((xdl b a L).set a (some (.inr (.inr x)))) st' = some o := by
  unfold xstR at h; split at h
  · rename_i h1; replace h := cond_inv h; obtain ⟨hk, h⟩ := h; exact ⟨_, _, rfl, (List.getElem?_eq_some_iff.mp h1).1, hk, h⟩
  · cases h
theorem xstL_inv {L : XL} {a b : Nat} {k : XL → List XV → XR} {st : List XV} {o : Option XV × XM} (h : xstL L a b k st = some o) : ∃ x st', st = .inr (.inl x) :: st' ∧ a + 1 < L.length ∧ xsk b a L = true ∧ k (((xdl b a L).set (a + 1) none).set a (some (xl x))) st' = some o := by
  unfold xstL at h; split at h
  · rename_i h1; replace h := cond_inv h; obtain ⟨hk, h⟩ := h; rw [vL_eq] at h; exact ⟨_, _, rfl, (List.getElem?_eq_some_iff.mp h1).1, hk, h⟩
  · cases h
theorem xinc_inv {L : XL} {a : Nat} {c : Int32} {k : XL → XR} {o : Option XV × XM} (h : xinc L a c k = some o) : ∃ x, L[a]? = some (some (xi x)) ∧ xsk 0 a L = true ∧ k (L.set a (some (xi (x + c)))) = some o := by
  unfold xinc at h; split at h
  · rename_i h1; replace h := cond_inv h; obtain ⟨hk, h⟩ := h; rw [vI_eq] at h; exact ⟨_, h1, hk, h⟩
  · cases h
theorem xdup_inv {k : List XV → XR} {st : List XV} {o : Option XV × XM} (h : xdup k st = some o) : ∃ v st', st = v :: st' ∧ xcat v = 1 ∧ k (v :: v :: st') = some o := by
  unfold xdup at h; split at h
  · exact ⟨_, _, rfl, rfl, h⟩
  · exact ⟨_, _, rfl, rfl, h⟩
  · cases h
theorem xdup2_inv {k : List XV → XR} {st : List XV} {o : Option XV × XM} (h : xdup2 k st = some o) : ∃ v w st', st = v :: w :: st' ∧ xcat v = 1 ∧ xcat w = 1 ∧ k (v :: w :: v :: w :: st') = some o := by
  unfold xdup2 at h; split at h
  · exact ⟨_, _, _, rfl, rfl, rfl, h⟩
  · cases h
theorem xpp_inv {k : List XV → XR} {st : List XV} {o : Option XV × XM} (h : xpp k st = some o) : ∃ v st', st = v :: st' ∧ xcat v = 1 ∧ k st' = some o := by
  unfold xpp at h; split at h
  · exact ⟨_, _, rfl, rfl, h⟩
  · exact ⟨_, _, rfl, rfl, h⟩
  · cases h
-- the tables
def xln : Instr → Nat
  | .bipush _ => 2 | .iload _ => 2 | .lload _ => 2 | .aload _ => 2 | .istore _ => 2 | .lstore _ => 2 | .astore _ => 2 | .ldc _ => 2
  | .sipush _ => 3 | .ldc_w _ => 3 | .ldc2_w _ => 3 | .iinc _ _ => 3 | .ifCond _ _ => 3 | .if_icmp _ _ => 3 | .ifnull _ => 3 | .ifnonnull _ => 3 | .goto _ => 3
  | .getfield _ => 3 | .putfield _ => 3 | .invokevirtual _ => 3 | .invokestatic _ => 3 | .new _ => 3 | .tableswitch _ _ _ _ => 0 | .lookupswitch _ _ => 0
  | _ => 1
def xsb (x : Int) (y : Nat) : Bool := decide (x = (y : Int))
def xau (own : String) (nw : Bool) (fl : List (Nat × Nat × Nat)) (cl : List (Nat × Int32)) (ll : List (Nat × Int64)) (jl : List (Nat × Nat)) (pc : Nat) (ins : Instr) (a b : Nat) (c : Int32) (d : Int64) (sw : List (Int32 × Nat)) : Bool := match ins with
  | .iconst n => decide (Int32.ofInt n = c)
  | .bipush n => decide ((Int8.ofInt n).toInt32 = c)
  | .sipush n => decide ((Int16.ofInt n).toInt32 = c)
  | .ldc i => (match b with | 0 => decide ((i, c) ∈ cl) | _ + 1 => decide (a < 2) && decide ((xstrT[a]?).map (fun q => (q.1, q.2.1)) = some (own, i)))
  | .ldc_w i => decide ((i, c) ∈ cl)
  | .lconst k => decide (Int64.ofNat (k : Nat) = d)
  | .ldc2_w i => decide ((i, d) ∈ ll)
  | .iload_n k => decide ((k : Nat) = a) | .lload_n k => decide ((k : Nat) = a) | .aload_n k => decide ((k : Nat) = a)
  | .istore_n k => decide ((k : Nat) = a) | .lstore_n k => decide ((k : Nat) = a) | .astore_n k => decide ((k : Nat) = a)
  | .iload k => decide (k = a) | .lload k => decide (k = a) | .aload k => decide (k = a)
  | .istore k => decide (k = a) | .lstore k => decide (k = a) | .astore k => decide (k = a)
  | .iinc k n => decide (k = a) && decide (Int32.ofInt n = c)
  | .getfield i => decide ((i, a, b) ∈ fl)
  | .putfield i => decide ((i, a, b) ∈ fl)
  | .goto off => xsb ((pc : Int) + off) a
  | .ifCond _ off => xsb ((pc : Int) + off) a
  | .if_icmp _ off => xsb ((pc : Int) + off) a
  | .ifnull off => xsb ((pc : Int) + off) a
  | .ifnonnull off => xsb ((pc : Int) + off) a
  | .tableswitch df lo hi offs => xsb ((pc : Int) + df) a && sw.all (fun q => decide (lo ≤ q.1.toInt) && decide (q.1.toInt ≤ hi) && decide (offs[(q.1.toInt - lo).toNat]? = some ((q.2 : Int) - pc))) && (List.range (hi - lo + 1).toNat).all (fun k => sw.any (fun q => decide (q.1.toInt = lo + k)))
  | .lookupswitch df ps => xsb ((pc : Int) + df) a && (ps.toList.zip (ps.toList.drop 1)).all (fun (x, next) => decide (x.1 < next.1)) && decide (ps.toList = sw.map (fun q => (q.1.toInt, (q.2 : Int) - pc)))
  | .new _ => nw
  | .invokestatic i => (match b with | 0 => true | b' + 1 => decide ((i, b' + 1) ∈ jl))
  | .invokevirtual _ => decide (b ≠ 99)
  | _ => true
/-- the pc behind a row, if the row is as the table says -/
def xnx (own : String) (cc : ByteArray) (nw : Bool) (fl : List (Nat × Nat × Nat)) (cl : List (Nat × Int32)) (ll : List (Nat × Int64)) (jl : List (Nat × Nat)) (e : XE) : Option Nat :=
  if e.2.1 = .nop then some e.1 else
  match decode cc e.1 with
  | .ok (i, n) => bif decide (i = e.2.1) && (Nat.beq (xln i) n || Nat.beq (xln i) 0) && xau own nw fl cl ll jl e.1 e.2.1 e.2.2.1 e.2.2.2.1 e.2.2.2.2.1 e.2.2.2.2.2.1 e.2.2.2.2.2.2 then some (e.1 + n) else none
  | _ => none
def xwf (nx : XE → Option Nat) : List XE → Bool
  | [] => true
  | e :: l => (match nx e, l with | some _, [] => true | some n, e' :: _ => Nat.beq n e'.1 | none, _ => false) && xwf nx l
theorem xwf_at {nx : XE → Option Nat} : ∀ {tab pre : List XE} {e : XE} {suf : List XE}, xwf nx tab = true → tab = pre ++ e :: suf → ∃ n, nx e = some n ∧ ∀ e' suf', suf = e' :: suf' → n = e'.1 := by
  intro tab pre
  induction pre generalizing tab with
  | nil =>
    intro e suf h htab
    subst htab
    simp only [List.nil_append, xwf, Bool.and_eq_true] at h
    cases hn : nx e with
    | none => rw [hn] at h; simp at h
    | some n =>
      refine ⟨n, rfl, fun e' suf' hs => ?_⟩
      subst hs
      rw [hn] at h
      exact Nat.eq_of_beq_eq_true h.1
  | cons a pre ih =>
    intro e suf h htab
    subst htab
    simp only [List.cons_append, xwf, Bool.and_eq_true] at h
    exact ih h.2 rfl
def xtab (own : String) (cc : ByteArray) (nw : Bool) (fl : List (Nat × Nat × Nat)) (cl : List (Nat × Int32)) (ll : List (Nat × Int64)) (jl : List (Nat × Nat)) (tab : List XE) : Prop :=
  xwf (xnx own cc nw fl cl ll jl) tab = true ∧ (∀ q ∈ fl, xfl own q) ∧ (∀ q ∈ cl, Cond.constant own q.1 q.2 ∈ xG) ∧ (∀ q ∈ ll, Cond.constantLong own q.1 q.2 ∈ xG) ∧ (∀ q ∈ jl, xjd own q)
theorem xseek_at : ∀ (tab : List XE) (a : Nat), xseek a tab = [] ∨ ∃ pre e nx, tab = pre ++ e :: nx ∧ xseek a tab = e :: nx ∧ e.1 = a := by
  intro tab a
  induction tab with
  | nil => exact Or.inl rfl
  | cons e l ih =>
    have hx : xseek a (e :: l) = bif Nat.beq e.1 a then e :: l else xseek a l := rfl
    cases hb : Nat.beq e.1 a
    · rw [hb] at hx
      replace hx : xseek a (e :: l) = xseek a l := hx
      rcases ih with h | ⟨pre, e', nx, h1, h2, h3⟩
      · exact Or.inl (hx.trans h)
      · exact Or.inr ⟨e :: pre, e', nx, by rw [h1]; rfl, hx.trans h2, h3⟩
    · rw [hb] at hx
      exact Or.inr ⟨[], e, l, rfl, hx, Nat.eq_of_beq_eq_true hb⟩
theorem xfind_mem {a : Nat} {l : XN} {q : Nat × Nat × Nat × XF} (h : xfind a l = some q) : (a, q) ∈ l := by
  induction l with
  | nil => cases h
  | cons e l ih =>
    have hx : xfind a (e :: l) = bif Nat.beq e.1 a then some e.2 else xfind a l := rfl
    rw [hx] at h
    cases hb : Nat.beq e.1 a
    · rw [hb] at h
      exact List.mem_cons_of_mem _ (ih h)
    · rw [hb] at h
      replace h : some e.2 = some q := h
      have h1 := Nat.eq_of_beq_eq_true hb
      have h2 := Option.some.inj h
      rw [← h1, ← h2]
      exact List.mem_cons_self
theorem xsw_inv {K : Nat → XR} {x : Int32} {d : Nat} {sw : List (Int32 × Nat)} {o : Option XV × XM} (h : xsw K x d sw = some o) : (∃ q ∈ sw, x = q.1 ∧ K q.2 = some o) ∨ ((∀ q ∈ sw, x ≠ q.1) ∧ K d = some o) := by
  induction sw with
  | nil => exact Or.inr ⟨fun _ h => absurd h List.not_mem_nil, h⟩
  | cons a sw ih =>
    obtain ⟨v, t⟩ := a
    unfold xsw at h
    by_cases hv : x = v
    · rw [xite_t hv] at h
      exact Or.inl ⟨_, List.mem_cons_self, hv, h⟩
    · rw [xite_f hv] at h
      rcases ih h with ⟨q, h1, h2⟩ | ⟨h1, h2⟩
      · exact Or.inl ⟨q, List.mem_cons_of_mem _ h1, h2⟩
      · exact Or.inr ⟨fun q hq => (List.mem_cons.mp hq).elim (fun z => by rw [z]; exact hv) (h1 q), h2⟩
theorem xlook {pc : Nat} {x : Int32} {df : Int} : ∀ {sw : List (Int32 × Nat)} {K : Nat → XR} {d : Nat} {o : Option XV × XM}, (pc : Int) + df = (d : Int) → xsw K x d sw = some o → ∃ t : Nat, K t = some o ∧ (pc : Int) + Op.lookupswitch.offset (sw.map (fun q => (q.1.toInt, (q.2 : Int) - pc))) df x.toInt = (t : Int) := by
  intro sw
  induction sw with
  | nil => intro K d o hd h; exact ⟨d, h, by rw [← hd]; rfl⟩
  | cons a sw ih =>
    intro K d o hd h
    obtain ⟨v, t⟩ := a
    unfold xsw at h
    by_cases hv : x = v
    · rw [xite_t hv] at h
      refine ⟨t, h, ?_⟩
      subst hv
      simp [Op.lookupswitch.offset]
      omega
    · rw [xite_f hv] at h
      obtain ⟨t', h1, h2⟩ := ih hd h
      refine ⟨t', h1, ?_⟩
      rw [List.map_cons, lv_osw (k := v) hv rfl]
      exact h2
end
section
/-! ONE ROW IS SOUND; a body is sound -/
theorem xdom_kd {t i j : Nat} (h : (t, i, j + 1) ∈ xdom) : (xarr t j).1 ≤ 5 := by
  have h0 : xdom.all (fun q => match q with | (t, _, j + 1) => decide ((xarr t j).1 ≤ 5) | _ => true) = true := by decide +kernel
  exact of_decide_eq_true (List.all_eq_true.mp h0 _ h)
theorem xok_obj {a i b : Nat} {sl : Nat ⊕ (Nat → XQ)} (h : xok (xr a i 0)) (hs : (xlay a)[b]? = some sl) : (a, i, 0) ∈ xdom := by
  have ho : (a, i, 0) ∈ xdom ∨ (a, i, 0) = (13, 0, 1) ∨ (a = 15 ∧ i < 2 ∧ 0 = 0) := h
  rcases ho with ho | ho | ⟨rfl, -, -⟩
  · exact ho
  · simp at ho
  · exact absurd (xlay_lt hs) (by omega)
theorem xok_arr {t i j kd n : Nat} (h : xok (xr t i (j + 1))) (hs : xarr t j = (kd, n)) (hk : kd ≠ 8) : (t, i, j + 1) ∈ xdom := by
  have ho : (t, i, j + 1) ∈ xdom ∨ (t, i, j + 1) = (13, 0, 1) ∨ (t = 15 ∧ i < 2 ∧ j + 1 = 0) := h
  rcases ho with ho | ho | ⟨-, -, z⟩
  · exact ho
  · simp only [Prod.mk.injEq] at ho
    obtain ⟨rfl, rfl, hj⟩ := ho
    obtain rfl : j = 0 := by omega
    have : xarr 13 0 = (8, 0) := rfl
    rw [this] at hs
    cases hs
    exact absurd rfl hk
  · omega
theorem xok_scr {t i j n : Nat} (h : xok (xr t i (j + 1))) (hs : xarr t j = (8, n)) : t = 13 ∧ i = 0 ∧ j = 0 := by
  have ho : (t, i, j + 1) ∈ xdom ∨ (t, i, j + 1) = (13, 0, 1) ∨ (t = 15 ∧ i < 2 ∧ j + 1 = 0) := h
  rcases ho with ho | ho | ⟨-, -, z⟩
  · have := xdom_kd ho
    rw [hs] at this
    exact absurd this (by show ¬ 8 ≤ 5; omega)
  · simp only [Prod.mk.injEq] at ho
    omega
  · omega
def xsv (μ : XM) (a i b : Nat) (sl : Nat ⊕ (Nat → XQ)) : XV := match sl with | .inl 1 => xl (rL μ a i b) | .inl _ => xi (rI μ a i b) | .inr f => .inr (.inr (some (f i)))
theorem xsv_c (X : XP) (μ : XM) (a i b : Nat) (sl : Nat ⊕ (Nat → XQ)) : xc X (xsv μ a i b sl) = xslot X μ a i b sl := by
  rcases sl with k | f
  · rcases k with _ | _ | k <;> rfl
  · rfl
theorem xgf_inv {μ : XM} {a b : Nat} {k : List XV → XR} {st : List XV} {o : Option XV × XM} (h : xgf μ a b k st = some o) : ∃ i st' sl, st = xr a i 0 :: st' ∧ (xlay a)[b]? = some sl ∧ k (xsv μ a i b sl :: st') = some o := by
  unfold xgf at h; split at h
  · replace h := cond_inv h; obtain ⟨ht, h⟩ := h
    replace ht := Nat.eq_of_beq_eq_true ht
    subst ht
    split at h
    · rename_i h1; exact ⟨_, _, _, rfl, h1, h⟩
    · rename_i k1 h2 h1
      refine ⟨_, _, _, rfl, h1, ?_⟩
      rcases k1 with _ | _ | k1
      · exact h
      · exact absurd rfl h2
      · exact h
    · rename_i h1; exact ⟨_, _, _, rfl, h1, h⟩
    · cases h
  · cases h
theorem xpf_inv {μ : XM} {a b : Nat} {k : List XV → XM → XR} {st : List XV} {o : Option XV × XM} (h : xpf μ a b k st = some o) :
    (∃ i st' kd x, st = xi x :: xr a i 0 :: st' ∧ (xlay a)[b]? = some (.inl kd) ∧ (kd = 0 ∨ (kd = 3 ∧ (x = 0 ∨ x = 1))) ∧ k st' (sI μ a i b x) = some o) ∨ (∃ i st' x, st = xl x :: xr a i 0 :: st' ∧ (xlay a)[b]? = some (.inl 1) ∧ k st' (sL μ a i b x) = some o) := by
  unfold xpf at h; split at h
  · replace h := cond_inv h; obtain ⟨ht, h⟩ := h
    replace ht := Nat.eq_of_beq_eq_true ht
    subst ht
    split at h
    · rename_i h1; rw [mS_eq] at h; exact Or.inl ⟨_, _, _, _, rfl, h1, Or.inl rfl, h⟩
    · rename_i h1; rw [mS_eq] at h; exact Or.inr ⟨_, _, _, rfl, h1, h⟩
    · rename_i h1
      replace h := xck_inv h; obtain ⟨hb, h⟩ := h
      rw [mS_eq] at h
      exact Or.inl ⟨_, _, _, _, rfl, h1, Or.inr ⟨rfl, xbl_or hb⟩, h⟩
    · cases h
  · cases h
theorem xal_inv {μ : XM} {k : List XV → XR} {st : List XV} {o : Option XV × XM} (h : xal μ k st = some o) : ∃ t i j st', st = xr t i (j + 1) :: st' ∧ ((∃ n, xarr t j = (8, n) ∧ k (xi (rI μ t i j) :: st') = some o) ∨ (∃ kd n, xarr t j = (kd, n) ∧ kd ≠ 8 ∧ k (xi (nI n) :: st') = some o)) := by
  unfold xal at h; split at h
  · refine ⟨_, _, _, _, rfl, ?_⟩
    split at h
    · rename_i h1; exact Or.inl ⟨_, h1, h⟩
    · cases h
    · rename_i kd n h2 h3 h1
      exact Or.inr ⟨_, _, h1, fun z => h2 z, h⟩
  · cases h
theorem xga_inv {μ : XM} {kind : Nat} {k : List XV → XR} {st : List XV} {o : Option XV × XM} (h : xga μ kind k st = some o) : ∃ x t i j st', st = xi x :: xr t i (j + 1) :: st' ∧ k (xi (aI μ t i j x.toNatClampNeg) :: st') = some o ∧ ((∃ n, xarr t j = (8, n) ∧ kind = 0 ∧ xin x (rI μ t i j).toNatClampNeg = true) ∨ (∃ n, xarr t j = (kind, n) ∧ kind ≠ 8 ∧ xin x n = true)) := by
  unfold xga at h; split at h
  · refine ⟨_, _, _, _, _, rfl, ?_⟩
    split at h
    · rename_i h1
      replace h := cond_inv h; obtain ⟨hb, h⟩ := h
      replace h := xck_inv h; obtain ⟨hb2, h⟩ := h
      exact ⟨h, Or.inl ⟨_, h1, Nat.eq_of_beq_eq_true hb, hb2⟩⟩
    · rename_i kd n h2 h1
      replace h := cond_inv h; obtain ⟨hb, h⟩ := h
      replace h := xck_inv h; obtain ⟨hb2, h⟩ := h
      replace hb := Nat.eq_of_beq_eq_true hb
      subst hb
      exact ⟨h, Or.inr ⟨_, h1, fun z => h2 z, hb2⟩⟩
  · cases h
theorem xgl_inv {μ : XM} {k : List XV → XR} {st : List XV} {o : Option XV × XM} (h : xgl μ k st = some o) : ∃ x t i j st' n, st = xi x :: xr t i (j + 1) :: st' ∧ xarr t j = (1, n) ∧ xin x n = true ∧ k (xl (aL μ t i j x.toNatClampNeg) :: st') = some o := by
  unfold xgl at h; split at h
  · split at h
    rename_i h1
    replace h := cond_inv h; obtain ⟨hb, h⟩ := h
    replace h := xck_inv h; obtain ⟨hb2, h⟩ := h
    replace hb := Nat.eq_of_beq_eq_true hb
    subst hb
    exact ⟨_, _, _, _, _, _, rfl, h1, hb2, h⟩
  · cases h
theorem xgr_inv {k : List XV → XR} {st : List XV} {o : Option XV × XM} (h : xgr k st = some o) : ∃ x t i j st' kd n, st = xi x :: xr t i (j + 1) :: st' ∧ xarr t j = (kd, n) ∧ (kd = 4 ∨ kd = 5) ∧ xin x n = true ∧ k (.inr (.inr (some (xrow kd x.toNatClampNeg))) :: st') = some o := by
  unfold xgr at h; split at h
  · split at h
    rename_i h1
    replace h := cond_inv h; obtain ⟨hb, h⟩ := h
    replace h := xck_inv h; obtain ⟨hb2, h⟩ := h
    rw [Bool.or_eq_true] at hb
    exact ⟨_, _, _, _, _, _, _, rfl, h1, hb.imp Nat.eq_of_beq_eq_true Nat.eq_of_beq_eq_true, hb2, h⟩
  · cases h
theorem xpa_inv {μ : XM} {kind : Nat} {f : Int32 → Int32} {ok : Int32 → Bool} {k : List XV → XM → XR} {st : List XV} {o : Option XV × XM} (h : xpa μ kind f ok k st = some o) : ∃ v x t i j st' n, st = xi v :: xi x :: xr t i (j + 1) :: st' ∧ xarr t j = (kind, n) ∧ xin x n = true ∧ ok v = true ∧ k st' (pI μ t i j x.toNatClampNeg (f v)) = some o := by
  unfold xpa at h; split at h
  · split at h
    rename_i h1
    replace h := cond_inv h; obtain ⟨hb, h⟩ := h
    replace h := xck_inv h; obtain ⟨hb2, h⟩ := h
    replace hb := Nat.eq_of_beq_eq_true hb
    subst hb
    rw [Bool.and_eq_true] at hb2
    rw [mS_eq] at h
    exact ⟨_, _, _, _, _, _, _, rfl, h1, hb2.1, hb2.2, h⟩
  · cases h
theorem xpl_inv {μ : XM} {k : List XV → XM → XR} {st : List XV} {o : Option XV × XM} (h : xpl μ k st = some o) : ∃ v x t i j st' n, st = xl v :: xi x :: xr t i (j + 1) :: st' ∧ xarr t j = (1, n) ∧ xin x n = true ∧ k st' (pL μ t i j x.toNatClampNeg v) = some o := by
  unfold xpl at h; split at h
  · split at h
    rename_i h1
    replace h := cond_inv h; obtain ⟨hb, h⟩ := h
    replace h := xck_inv h; obtain ⟨hb2, h⟩ := h
    replace hb := Nat.eq_of_beq_eq_true hb
    subst hb
    rw [mS_eq] at h
    exact ⟨_, _, _, _, _, _, _, rfl, h1, hb2, h⟩
  · cases h
theorem xcp_inv {μ : XM} {k : List XV → XM → XR} {st : List XV} {o : Option XV × XM} (h : xcp μ k st = some o) : ∃ n dp t1 i1 j1 sp t0 i0 j0 st' n0 n1, st = xi n :: xi dp :: xr t1 i1 (j1 + 1) :: xi sp :: xr t0 i0 (j0 + 1) :: st' ∧ xcpok sp dp n n0 n1 = true ∧
    ((xarr t0 j0 = (0, n0) ∧ xarr t1 j1 = (0, n1) ∧ k st' (wI μ t1 i1 j1 (va_cpy (aI μ t0 i0 j0) (aI μ t1 i1 j1) sp.toNatClampNeg dp.toNatClampNeg n.toNatClampNeg)) = some o) ∨ (xarr t0 j0 = (1, n0) ∧ xarr t1 j1 = (1, n1) ∧ k st' (wL μ t1 i1 j1 (va_cpy (aL μ t0 i0 j0) (aL μ t1 i1 j1) sp.toNatClampNeg dp.toNatClampNeg n.toNatClampNeg)) = some o)) := by
  unfold xcp at h; split at h
  · split at h
    · rename_i h1 h2
      replace h := xck_inv h; obtain ⟨hb, h⟩ := h
      rw [mS_eq] at h
      exact ⟨_, _, _, _, _, _, _, _, _, _, _, _, rfl, hb, Or.inl ⟨h1, h2, h⟩⟩
    · rename_i h1 h2
      replace h := xck_inv h; obtain ⟨hb, h⟩ := h
      rw [mS_eq] at h
      exact ⟨_, _, _, _, _, _, _, _, _, _, _, _, rfl, hb, Or.inr ⟨h1, h2, h⟩⟩
    · cases h
  · cases h
theorem xca_inv {env : XN} {idx a tg : Nat} {μ : XM} {as rest : List XV} {k : List XV → XM → XR} {o : Option XV × XM} (h : xca env idx a tg μ as rest k = some o) : xsum rest ≤ 8 ∧ ∃ rk F r μ', (idx, rk, a, tg, F) ∈ env ∧ F as μ = some (r, μ') ∧ (∀ q, r ≠ some (.inr (.inr q))) ∧ k (r.toList ++ rest) μ' = some o := by
  unfold xca at h
  replace h := cond_inv h; obtain ⟨hb, h⟩ := h
  refine ⟨Nat.le_of_ble_eq_true hb, ?_⟩
  split at h
  · rename_i rk na tg' F hf
    replace h := cond_inv h; obtain ⟨hb2, h⟩ := h
    rw [Bool.and_eq_true] at hb2
    have e1 := Nat.eq_of_beq_eq_true hb2.1
    have e2 := Nat.eq_of_beq_eq_true hb2.2
    subst e1; subst e2
    have hm := xfind_mem hf
    split at h
    · unfold bV at h; split at h
      · rename_i he; exact ⟨_, _, _, _, hm, he, (fun q z => by cases z), h⟩
      · cases h
    · unfold bI at h; split at h
      · rename_i he; exact ⟨_, _, _, _, hm, he, (fun q z => by cases z), h⟩
      · cases h
    · unfold bL at h; split at h
      · rename_i he; exact ⟨_, _, _, _, hm, he, (fun q z => by cases z), h⟩
      · cases h
    · cases h
  · cases h
def xbd (capc caps ac as w cells slots : Nat) : Prop := cells + w * ac ≤ capc ∧ slots + w * as ≤ caps
theorem xbd_dec {capc caps ac as w cells slots : Nat} (h : xbd capc caps ac as (w + 1) cells slots) : xbd capc caps ac as w cells slots := by
  obtain ⟨h1, h2⟩ := h
  rw [Nat.succ_mul] at h1 h2
  exact ⟨by omega, by omega⟩
theorem xbd_call {capc caps ac as w cells slots mc ms : Nat} (h : xbd capc caps ac as (w + 1) cells slots) (h3 : mc ≤ ac) (h4 : ms ≤ as) : xbd capc caps ac as w (cells + mc) (slots + ms) := by
  obtain ⟨h1, h2⟩ := h
  rw [Nat.succ_mul] at h1 h2
  exact ⟨by omega, by omega⟩
theorem xbd_now {capc caps ac as w cells slots : Nat} (h : xbd capc caps ac as (w + 1) cells slots) : cells + ac ≤ capc ∧ slots + as ≤ caps := by
  obtain ⟨h1, h2⟩ := h
  rw [Nat.succ_mul] at h1 h2
  exact ⟨by omega, by omega⟩
theorem xbd_le {capc caps ac as w w' cells slots : Nat} (h : xbd capc caps ac as w cells slots) (hw : w' ≤ w) : xbd capc caps ac as w' cells slots :=
  ⟨Nat.le_trans (Nat.add_le_add_left (Nat.mul_le_mul_right _ hw) _) h.1, Nat.le_trans (Nat.add_le_add_left (Nat.mul_le_mul_right _ hw) _) h.2⟩
theorem xbd_0 {capc caps ac as w cells slots : Nat} (h : xbd capc caps ac as w cells slots) : cells ≤ capc ∧ slots ≤ caps :=
  ⟨Nat.le_trans (Nat.le_add_right _ _) h.1, Nat.le_trans (Nat.le_add_right _ _) h.2⟩
theorem okc {v : XV} {st : List XV} (h : xok v) (hs : ∀ w ∈ st, xok w) : ∀ w ∈ v :: st, xok w := List.forall_mem_cons.mpr ⟨h, hs⟩
theorem okt {v : XV} {st : List XV} (hs : ∀ w ∈ v :: st, xok w) : ∀ w ∈ st, xok w := (List.forall_mem_cons.mp hs).2
theorem okh {v : XV} {st : List XV} (hs : ∀ w ∈ v :: st, xok w) : xok v := (List.forall_mem_cons.mp hs).1
/-- a method's ends -/
def XFin (p : Program) (l : Launch) (e : Env) (R : Room) (s : State) (m : MethodId) (args : Array Value) (below : List Frame) (meth : Method) (c : Code) (Z : State → Prop) (cc : ByteArray) (X : XP) (nw : Bool) (rt capc caps : Nat) (r : Option XV) (μr : XM) : Prop :=
  ∀ (H : Heap) (locs : List Loc) (cells slots pc : Nat) (ls : Array Slot), ls.size = c.maxLocals → XI X s μr H locs → cells ≤ capc → slots ≤ caps →
    (rt = 0 → r = none → decode cc pc = .ok (.return_, 1) → W p l e R s m args below meth c H locs cells slots Z (F0 m pc ls [])) ∧
    (∀ x, r = some (xi x) → (rt = 1 ∨ (rt = 2 ∧ (x = 0 ∨ x = 1)) ∨ (rt = 3 ∧ vp_nar .char x = x)) → decode cc pc = .ok (.ireturn, 1) → W p l e R s m args below meth c H locs cells slots Z (F0 m pc ls [.int x])) ∧
    (∀ x, rt = 4 → r = some (xl x) → decode cc pc = .ok (.lreturn, 1) → W p l e R s m args below meth c H locs cells slots Z (F0 m pc ls [.long x])) ∧
    (∀ idx st, nw = true → r = some (xr 99 0 0) → decode cc pc = .ok (.new idx, 3) → W p l e R s m args below meth c H locs cells slots Z (F0 m pc ls st))
end
section
set_option maxHeartbeats 4000000 in
theorem xs_step {p : Program} {l : Launch} {e : Env} {R : Room} {s : State} {m : MethodId} {args : Array Value} {below : List Frame} {meth : Method} {c : Code} {Z : State → Prop} {cc : ByteArray} {own : String} {X : XP} {nL : Nat}
    (C : XCt X p R s m args c cc own nL) {tab : List XE} {env : XN} {rt : Nat} {nw : Bool} {fl : List (Nat × Nat × Nat)} {cl : List (Nat × Int32)} {ll : List (Nat × Int64)} {jl : List (Nat × Nat)} (hT : xtab own cc nw fl cl ll jl tab)
    {ac as capc caps : Nat} (hE : ∀ q ∈ env, xcal X l R own ac as q) (hcap : capc ≤ R.cells ∧ caps ≤ R.slots) {r : Option XV} {μr : XM}
    (hF : XFin p l e R s m args below meth c Z cc X nw rt capc caps r μr) {A : Nat → XL → List XV → XM → XR} {rec : XK} {w wA : Nat} (hwA : wA ≤ w)
    (hA : ∀ h L st μ H locs cells slots ls, A h L st μ = some (r, μr) → XI X s μ H locs → xloc X ls nL L → (∀ v ∈ st, xok v) → xbd capc caps ac as wA cells slots → W p l e R s m args below meth c H locs cells slots Z (F0 m h ls (st.map (xc X))))
    (hnil : ∀ L st μ, rec [] L st μ = none)
    (hrec : ∀ (e' : XE) (nx pre : List XE), tab = pre ++ e' :: nx → ∀ L st μ H locs cells slots ls, rec (e' :: nx) L st μ = some (r, μr) → XI X s μ H locs → xloc X ls nL L → (∀ v ∈ st, xok v) → xbd capc caps ac as w cells slots → W p l e R s m args below meth c H locs cells slots Z (F0 m e'.1 ls (st.map (xc X))))
    {e0 : XE} {nx pre : List XE} (htab : tab = pre ++ e0 :: nx) {L : XL} {st : List XV} {μ : XM} {H : Heap} {locs : List Loc} {cells slots : Nat} {ls : Array Slot} (h : xstep A tab env rt rec (e0 :: nx) L st μ = some (r, μr)) (hI : XI X s μ H locs) (hL : xloc X ls nL L) (hst : ∀ v ∈ st, xok v) (hbd : xbd capc caps ac as (w + 1) cells slots) :
    W p l e R s m args below meth c H locs cells slots Z (F0 m e0.1 ls (st.map (xc X))) := by
  obtain ⟨pc, ins, a, b, c0, d, sw⟩ := e0
  have hls : ls.size = nL := hL.1.1
  have hb := xbd_dec hbd
  obtain ⟨n1, hn1, hnx⟩ := xwf_at hT.1 htab
  have hnext : ∀ {n : Nat}, pc + n = n1 → ∀ {L' : XL} {st' : List XV} {μ' : XM} {H' : Heap} {locs' : List Loc} {cells' slots' : Nat} {ls' : Array Slot}, rec nx L' st' μ' = some (r, μr) → XI X s μ' H' locs' → xloc X ls' nL L' → (∀ v ∈ st', xok v) → xbd capc caps ac as w cells' slots' → W p l e R s m args below meth c H' locs' cells' slots' Z (F0 m (pc + n) ls' (st'.map (xc X))) := by
    intro n hn L' st' μ' H' locs' cells' slots' ls' h1 h2 h3 h4 h5
    cases nx with
    | nil => rw [hnil] at h1; cases h1
    | cons e' nx' =>
      rw [hn, hnx e' nx' rfl]
      exact hrec e' nx' (pre ++ [(pc, ins, a, b, c0, d, sw)]) (by rw [htab]; simp) _ _ _ _ _ _ _ _ h1 h2 h3 h4 h5
  have hjump : ∀ {t : Nat} {L' : XL} {st' : List XV} {μ' : XM} {H' : Heap} {locs' : List Loc} {cells' slots' : Nat} {ls' : Array Slot}, rec (xseek t tab) L' st' μ' = some (r, μr) → XI X s μ' H' locs' → xloc X ls' nL L' → (∀ v ∈ st', xok v) → xbd capc caps ac as w cells' slots' → W p l e R s m args below meth c H' locs' cells' slots' Z (F0 m t ls' (st'.map (xc X))) := by
    intro t L' st' μ' H' locs' cells' slots' ls' h1 h2 h3 h4 h5
    rcases xseek_at tab t with h6 | ⟨pre', e', nx', h6, h7, h8⟩
    · rw [h6, hnil] at h1; cases h1
    · rw [h7] at h1
      rw [← h8]
      exact hrec e' nx' pre' h6 _ _ _ _ _ _ _ _ h1 h2 h3 h4 h5
  by_cases hnop : ins = .nop
  · subst hnop
    simp only [xstep] at h
    exact hA pc _ st μ H locs cells slots ls h hI (xloc_mask a hL) hst (xbd_le hb hwA)
  obtain ⟨n, hd, hln, hau, hnn⟩ : ∃ n, decode cc pc = .ok (ins, n) ∧ (xln ins = n ∨ xln ins = 0) ∧ xau own nw fl cl ll jl pc ins a b c0 d sw = true ∧ pc + n = n1 := by
    unfold xnx at hn1
    rw [if_neg hnop] at hn1
    cases hd : decode cc pc with
    | error z => rw [hd] at hn1; cases hn1
    | ok z =>
      obtain ⟨i, n⟩ := z
      rw [hd] at hn1
      replace hn1 := cond_inv hn1
      obtain ⟨h1, h2⟩ := hn1
      rw [Bool.and_eq_true, Bool.and_eq_true, Bool.or_eq_true] at h1
      have e1 := of_decide_eq_true h1.1.1
      dsimp only at e1 h2
      subst e1
      exact ⟨n, rfl, h1.1.2.imp Nat.eq_of_beq_eq_true Nat.eq_of_beq_eq_true, h1.2, Option.some.inj h2⟩
  have hx := C.1
  have hbb := C.2.1
  have hml := C.2.2.1
  have hown := C.2.2.2.1
  have hts := C.2.2.2.2.1
  have hfr : 1 ≤ R.frames := C.2.2.2.2.2.2.2.2.1
  have hlo : 100 ≤ R.locals := C.2.2.2.2.2.2.2.2.2
  have hmls : c.maxLocals = ls.size := by rw [hml, hls]
  have hnL : L.length = nL := hL.2.1
  have hcr : cells ≤ R.cells ∧ slots ≤ R.slots := ⟨Nat.le_trans (xbd_0 hbd).1 hcap.1, Nat.le_trans (xbd_0 hbd).2 hcap.2⟩
  have hcw : cells + ac ≤ R.cells ∧ slots + as ≤ R.slots := ⟨Nat.le_trans (xbd_now hbd).1 hcap.1, Nat.le_trans (xbd_now hbd).2 hcap.2⟩
  cases ins with
  | iconst n0 => obtain rfl : n = 1 := by simp only [xln] at hln; omega
                 simp only [xstep] at h; exact lv_iconst hx hbb hd (of_decide_eq_true hau) (hnext hnn h hI hL (okc trivial hst) hb)
  | bipush n0 => obtain rfl : n = 2 := by simp only [xln] at hln; omega
                 simp only [xstep] at h; exact lv_bipush hx hbb hd (of_decide_eq_true hau) (hnext hnn h hI hL (okc trivial hst) hb)
  | sipush n0 => obtain rfl : n = 3 := by simp only [xln] at hln; omega
                 simp only [xstep] at h; exact lv_sipush hx hbb hd (of_decide_eq_true hau) (hnext hnn h hI hL (okc trivial hst) hb)
  | ldc i0 =>
    obtain rfl : n = 2 := by simp only [xln] at hln; omega
    cases b with
    | zero => exact lv_ldc hx hbb hown (hts _ (hT.2.2.1 _ (of_decide_eq_true hau))) hd (hnext hnn h hI hL (okc trivial hst) hb)
    | succ b =>
      simp only [xau, Bool.and_eq_true, decide_eq_true_eq] at hau
      obtain ⟨ha, hau⟩ := hau
      cases hq : xstrT[a]? with
      | none => rw [hq] at hau; cases hau
      | some q =>
        rw [hq] at hau
        simp only [Option.map_some, Option.some.injEq, Prod.mk.injEq] at hau
        have hv := C.2.2.2.2.2.2.2.1.2.2.2.2.2.1 s s.heap a q C.2.2.2.2.2.2.1 hq
        rw [hau.1, hau.2] at hv
        exact va_ldcS hx hbb hown hv hd (hnext hnn h hI hL (okc (Or.inr (Or.inr ⟨rfl, ha, rfl⟩)) hst) hb)
  | ldc_w i0 => obtain rfl : n = 3 := by simp only [xln] at hln; omega
                simp only [xstep] at h; exact lv_ldcw hx hbb hown (hts _ (hT.2.2.1 _ (of_decide_eq_true hau))) hd (hnext hnn h hI hL (okc trivial hst) hb)
  | lconst k0 => obtain rfl : n = 1 := by simp only [xln] at hln; omega
                 simp only [xstep] at h; exact lv_lconst hx hbb hd (of_decide_eq_true hau) (hnext hnn h hI hL (okc trivial hst) hb)
  | ldc2_w i0 => obtain rfl : n = 3 := by simp only [xln] at hln; omega
                 simp only [xstep] at h; exact lv_ldc2 hx hbb hown (hts _ (hT.2.2.2.1 _ (of_decide_eq_true hau))) hd (hnext hnn h hI hL (okc trivial hst) hb)
  | aconst_null => obtain rfl : n = 1 := by simp only [xln] at hln; omega
                   simp only [xstep] at h; exact lv_null hx hbb hd (hnext hnn h hI hL (okc trivial hst) hb)
  | iload_n k0 => obtain rfl : n = 1 := by simp only [xln] at hln; omega
                  simp only [xstep] at h; obtain ⟨x, h1, h⟩ := xldI_inv h
                  exact lv_iload_n hx hbb hd (of_decide_eq_true hau) (xloc_get hL h1) (hnext hnn h hI hL (okc trivial hst) hb)
  | iload k0 => obtain rfl : n = 2 := by simp only [xln] at hln; omega
                obtain rfl : k0 = a := of_decide_eq_true hau
                simp only [xstep] at h; obtain ⟨x, h1, h⟩ := xldI_inv h
                exact lv_iload hx hbb hd (xloc_get hL h1) (hnext hnn h hI hL (okc trivial hst) hb)
  | lload_n k0 => obtain rfl : n = 1 := by simp only [xln] at hln; omega
                  simp only [xstep] at h; obtain ⟨x, h1, h⟩ := xldL_inv h
                  exact lv_lload_n hx hbb hd (of_decide_eq_true hau) (xloc_get hL h1) (hnext hnn h hI hL (okc trivial hst) hb)
  | lload k0 => obtain rfl : n = 2 := by simp only [xln] at hln; omega
                obtain rfl : k0 = a := of_decide_eq_true hau
                simp only [xstep] at h; obtain ⟨x, h1, h⟩ := xldL_inv h
                exact lv_lload hx hbb hd (xloc_get hL h1) (hnext hnn h hI hL (okc trivial hst) hb)
  | aload_n k0 => obtain rfl : n = 1 := by simp only [xln] at hln; omega
                  simp only [xstep] at h; obtain ⟨x, h1, h⟩ := xldR_inv h
                  rcases x with _ | q
                  · exact lv_aload_nN hx hbb hd (of_decide_eq_true hau) (xloc_get hL h1) (hnext hnn h hI hL (okc trivial hst) hb)
                  · exact lv_aload_n hx hbb hd (of_decide_eq_true hau) (xloc_get hL h1) (hnext hnn h hI hL (okc (xloc_ok hL h1) hst) hb)
  | aload k0 => obtain rfl : n = 2 := by simp only [xln] at hln; omega
                obtain rfl : k0 = a := of_decide_eq_true hau
                simp only [xstep] at h; obtain ⟨x, h1, h⟩ := xldR_inv h
                rcases x with _ | q
                · exact lv_aloadN hx hbb hd (xloc_get hL h1) (hnext hnn h hI hL (okc trivial hst) hb)
                · exact lv_aload hx hbb hd (xloc_get hL h1) (hnext hnn h hI hL (okc (xloc_ok hL h1) hst) hb)
  | istore_n k0 => obtain rfl : n = 1 := by simp only [xln] at hln; omega
                   simp only [xstep] at h; obtain ⟨x, st', rfl, h1, hk, h⟩ := xstI_inv h
                   rw [hnL] at h1
                   exact lv_istore_n hx hbb hd (of_decide_eq_true hau) hL.1 h1 rfl (fun ls' h2 => hnext hnn h hI (xloc_st1 (v := xi x) hk hL h1 trivial h2) (okt hst) hb)
  | istore k0 => obtain rfl : n = 2 := by simp only [xln] at hln; omega
                 simp only [xstep] at h; obtain ⟨x, st', rfl, h1, hk, h⟩ := xstI_inv h
                 obtain rfl : k0 = a := of_decide_eq_true hau
                 rw [hnL] at h1
                 exact lv_istore hx hbb hd hL.1 h1 rfl (fun ls' h2 => hnext hnn h hI (xloc_st1 (v := xi x) hk hL h1 trivial h2) (okt hst) hb)
  | lstore_n k0 => obtain rfl : n = 1 := by simp only [xln] at hln; omega
                   simp only [xstep] at h; obtain ⟨x, st', rfl, h1, hk, h⟩ := xstL_inv h
                   rw [hnL] at h1
                   exact lv_lstore_n hx hbb hd (of_decide_eq_true hau) hL.1 h1 rfl (fun ls' h2 => hnext hnn h hI (xloc_st2 (v := xl x) hk hL h1 trivial h2) (okt hst) hb)
  | lstore k0 => obtain rfl : n = 2 := by simp only [xln] at hln; omega
                 simp only [xstep] at h; obtain ⟨x, st', rfl, h1, hk, h⟩ := xstL_inv h
                 obtain rfl : k0 = a := of_decide_eq_true hau
                 rw [hnL] at h1
                 exact lv_lstore hx hbb hd hL.1 h1 rfl (fun ls' h2 => hnext hnn h hI (xloc_st2 (v := xl x) hk hL h1 trivial h2) (okt hst) hb)
  | astore_n k0 => obtain rfl : n = 1 := by simp only [xln] at hln; omega
                   simp only [xstep] at h; obtain ⟨x, st', rfl, h1, hk, h⟩ := xstR_inv h
                   rw [hnL] at h1
                   rcases x with _ | q
                   · exact lv_astore_nN hx hbb hd (of_decide_eq_true hau) hL.1 h1 rfl (fun ls' h2 => hnext hnn h hI (xloc_st1 (v := xn) hk hL h1 trivial h2) (okt hst) hb)
                   · exact lv_astore_n hx hbb hd (of_decide_eq_true hau) hL.1 h1 rfl (fun ls' h2 => hnext hnn h hI (xloc_st1 (v := .inr (.inr (some q))) hk hL h1 (okh hst) h2) (okt hst) hb)
  | astore k0 => obtain rfl : n = 2 := by simp only [xln] at hln; omega
                 simp only [xstep] at h; obtain ⟨x, st', rfl, h1, hk, h⟩ := xstR_inv h
                 obtain rfl : k0 = a := of_decide_eq_true hau
                 rw [hnL] at h1
                 rcases x with _ | q
                 · exact lv_astoreN hx hbb hd hL.1 h1 rfl (fun ls' h2 => hnext hnn h hI (xloc_st1 (v := xn) hk hL h1 trivial h2) (okt hst) hb)
                 · exact lv_astore hx hbb hd hL.1 h1 rfl (fun ls' h2 => hnext hnn h hI (xloc_st1 (v := .inr (.inr (some q))) hk hL h1 (okh hst) h2) (okt hst) hb)
  | iinc k0 n0 => obtain rfl : n = 3 := by simp only [xln] at hln; omega
                  simp only [xstep] at h; obtain ⟨x, h1, hk, h⟩ := xinc_inv h
                  simp only [xau, Bool.and_eq_true, decide_eq_true_eq] at hau
                  obtain ⟨rfl, hc0⟩ := hau
                  have ha : k0 < nL := by rw [← hnL]; exact (List.getElem?_eq_some_iff.mp h1).1
                  have hm : (k0, Value.int x) ∈ xlv X 0 L := (xlv_iff X L k0 _).mpr ⟨xi x, h1, rfl⟩
                  obtain ⟨kk, hkk⟩ := List.mem_iff_getElem?.mp hm
                  exact lv_iinc (v := x + c0) hx hbb hd hL.1 hkk (by rw [hc0]) ha rfl (fun ls' h2 => hnext hnn h hI (xloc_st1 (b := 0) (v := xi (x + c0)) hk hL ha trivial h2) hst hb)
  | iadd => obtain rfl : n = 1 := by simp only [xln] at hln; omega
            simp only [xstep] at h; obtain ⟨x, y, st', rfl, h⟩ := xo2_inv h; exact lv_iadd hx hbb hd (hnext hnn h hI hL (okc trivial (okt (okt hst))) hb)
  | isub => obtain rfl : n = 1 := by simp only [xln] at hln; omega
            simp only [xstep] at h; obtain ⟨x, y, st', rfl, h⟩ := xo2_inv h; exact lv_isub hx hbb hd (hnext hnn h hI hL (okc trivial (okt (okt hst))) hb)
  | imul => obtain rfl : n = 1 := by simp only [xln] at hln; omega
            simp only [xstep] at h; obtain ⟨x, y, st', rfl, h⟩ := xo2_inv h; exact lv_imul hx hbb hd (hnext hnn h hI hL (okc trivial (okt (okt hst))) hb)
  | iand => obtain rfl : n = 1 := by simp only [xln] at hln; omega
            simp only [xstep] at h; obtain ⟨x, y, st', rfl, h⟩ := xo2_inv h; exact lv_iand hx hbb hd (hnext hnn h hI hL (okc trivial (okt (okt hst))) hb)
  | ior => obtain rfl : n = 1 := by simp only [xln] at hln; omega
           simp only [xstep] at h; obtain ⟨x, y, st', rfl, h⟩ := xo2_inv h; exact lv_ior hx hbb hd (hnext hnn h hI hL (okc trivial (okt (okt hst))) hb)
  | ixor => obtain rfl : n = 1 := by simp only [xln] at hln; omega
            simp only [xstep] at h; obtain ⟨x, y, st', rfl, h⟩ := xo2_inv h; exact lv_ixor hx hbb hd (hnext hnn h hI hL (okc trivial (okt (okt hst))) hb)
  | ishl => obtain rfl : n = 1 := by simp only [xln] at hln; omega
            simp only [xstep] at h; obtain ⟨x, y, st', rfl, h⟩ := xo2_inv h; exact lv_ishl hx hbb hd (hnext hnn h hI hL (okc trivial (okt (okt hst))) hb)
  | ishr => obtain rfl : n = 1 := by simp only [xln] at hln; omega
            simp only [xstep] at h; obtain ⟨x, y, st', rfl, h⟩ := xo2_inv h; exact lv_ishr hx hbb hd (hnext hnn h hI hL (okc trivial (okt (okt hst))) hb)
  | iushr => obtain rfl : n = 1 := by simp only [xln] at hln; omega
             simp only [xstep] at h; obtain ⟨x, y, st', rfl, h⟩ := xo2_inv h; exact lv_iushr hx hbb hd rfl (hnext hnn h hI hL (okc trivial (okt (okt hst))) hb)
  | idiv => obtain rfl : n = 1 := by simp only [xln] at hln; omega
            simp only [xstep] at h; obtain ⟨x, y, st', rfl, hy, h⟩ := xo2n_inv h; exact lv_idiv hx hbb hd hy (hnext hnn h hI hL (okc trivial (okt (okt hst))) hb)
  | irem => obtain rfl : n = 1 := by simp only [xln] at hln; omega
            simp only [xstep] at h; obtain ⟨x, y, st', rfl, hy, h⟩ := xo2n_inv h; exact lv_irem hx hbb hd hy (hnext hnn h hI hL (okc trivial (okt (okt hst))) hb)
  | ineg => obtain rfl : n = 1 := by simp only [xln] at hln; omega
            simp only [xstep] at h; obtain ⟨x, st', rfl, h⟩ := xo1_inv h; exact lv_ineg hx hbb hd (hnext hnn h hI hL (okc trivial (okt hst)) hb)
  | i2l => obtain rfl : n = 1 := by simp only [xln] at hln; omega
           simp only [xstep] at h; obtain ⟨x, st', rfl, h⟩ := xo1_inv h; exact lv_i2l hx hbb hd rfl (hnext hnn h hI hL (okc trivial (okt hst)) hb)
  | i2c => obtain rfl : n = 1 := by simp only [xln] at hln; omega
           simp only [xstep] at h; obtain ⟨x, st', rfl, h⟩ := xo1_inv h; exact lv_i2c hx hbb hd rfl (hnext hnn h hI hL (okc trivial (okt hst)) hb)
  | l2i => obtain rfl : n = 1 := by simp only [xln] at hln; omega
           simp only [xstep] at h; obtain ⟨x, st', rfl, h⟩ := xo1l_inv h; exact lv_l2i hx hbb hd rfl (hnext hnn h hI hL (okc trivial (okt hst)) hb)
  | ladd => obtain rfl : n = 1 := by simp only [xln] at hln; omega
            simp only [xstep] at h; obtain ⟨x, y, st', rfl, h⟩ := xo2l_inv h; exact lv_ladd hx hbb hd (hnext hnn h hI hL (okc trivial (okt (okt hst))) hb)
  | lsub => obtain rfl : n = 1 := by simp only [xln] at hln; omega
            simp only [xstep] at h; obtain ⟨x, y, st', rfl, h⟩ := xo2l_inv h; exact lv_lsub hx hbb hd (hnext hnn h hI hL (okc trivial (okt (okt hst))) hb)
  | lmul => obtain rfl : n = 1 := by simp only [xln] at hln; omega
            simp only [xstep] at h; obtain ⟨x, y, st', rfl, h⟩ := xo2l_inv h; exact lv_lmul hx hbb hd (hnext hnn h hI hL (okc trivial (okt (okt hst))) hb)
  | land => obtain rfl : n = 1 := by simp only [xln] at hln; omega
            simp only [xstep] at h; obtain ⟨x, y, st', rfl, h⟩ := xo2l_inv h; exact lv_land hx hbb hd (hnext hnn h hI hL (okc trivial (okt (okt hst))) hb)
  | lor => obtain rfl : n = 1 := by simp only [xln] at hln; omega
           simp only [xstep] at h; obtain ⟨x, y, st', rfl, h⟩ := xo2l_inv h; exact lv_lor hx hbb hd (hnext hnn h hI hL (okc trivial (okt (okt hst))) hb)
  | lcmp => obtain rfl : n = 1 := by simp only [xln] at hln; omega
            simp only [xstep] at h; obtain ⟨x, y, st', rfl, h⟩ := xo2l_inv h; exact W.lcmp hx hbb hd (hnext hnn h hI hL (okc trivial (okt (okt hst))) hb)
  | ldiv => obtain rfl : n = 1 := by simp only [xln] at hln; omega
            simp only [xstep] at h; obtain ⟨x, y, st', rfl, hy, h⟩ := xo2ln_inv h; exact lv_ldiv hx hbb hd hy (hnext hnn h hI hL (okc trivial (okt (okt hst))) hb)
  | lrem => obtain rfl : n = 1 := by simp only [xln] at hln; omega
            simp only [xstep] at h; obtain ⟨x, y, st', rfl, hy, h⟩ := xo2ln_inv h; exact lv_lrem hx hbb hd hy (hnext hnn h hI hL (okc trivial (okt (okt hst))) hb)
  | lshl => obtain rfl : n = 1 := by simp only [xln] at hln; omega
            simp only [xstep] at h; obtain ⟨x, y, st', rfl, h⟩ := xo2s_inv h; exact lv_lshl hx hbb hd rfl (hnext hnn h hI hL (okc trivial (okt (okt hst))) hb)
  | lshr => obtain rfl : n = 1 := by simp only [xln] at hln; omega
            simp only [xstep] at h; obtain ⟨x, y, st', rfl, h⟩ := xo2s_inv h; exact lv_lshr hx hbb hd rfl (hnext hnn h hI hL (okc trivial (okt (okt hst))) hb)
  | lushr => obtain rfl : n = 1 := by simp only [xln] at hln; omega
             simp only [xstep] at h; obtain ⟨x, y, st', rfl, h⟩ := xo2s_inv h; exact lv_lushr hx hbb hd rfl (hnext hnn h hI hL (okc trivial (okt (okt hst))) hb)
  | dup => obtain rfl : n = 1 := by simp only [xln] at hln; omega
           simp only [xstep] at h; obtain ⟨v, st', rfl, hv, h⟩ := xdup_inv h
           exact lv_dup hx hbb hd (by rw [xc_cat]; exact hv) (hnext hnn h hI hL (okc (okh hst) hst) hb)
  | dup2 => obtain rfl : n = 1 := by simp only [xln] at hln; omega
            simp only [xstep] at h; obtain ⟨v, v2, st', rfl, hv, hv2, h⟩ := xdup2_inv h
            exact lv_dup2_11 hx hbb hd (by rw [xc_cat]; exact hv) (by rw [xc_cat]; exact hv2) (hnext hnn h hI hL (okc (okh hst) (okc (okh (okt hst)) hst)) hb)
  | pop => obtain rfl : n = 1 := by simp only [xln] at hln; omega
           simp only [xstep] at h; obtain ⟨v, st', rfl, hv, h⟩ := xpp_inv h
           exact lv_pop hx hbb hd (by rw [xc_cat]; exact hv) (hnext hnn h hI hL (okt hst) hb)
  | getfield i0 =>
    obtain rfl : n = 3 := by simp only [xln] at hln; omega
    simp only [xstep] at h; obtain ⟨i, st', sl, rfl, hs, h⟩ := xgf_inv h
    have hq := xok_obj (okh hst) hs
    refine xr_get C hI (hT.2.1 _ (of_decide_eq_true hau)) hq hs hd ?_
    rw [← xsv_c]
    refine hnext hnn h hI hL (okc ?_ (okt hst)) hb
    rcases sl with k | f
    · rcases k with _ | _ | k <;> trivial
    · exact Or.inl (xlink hq hs)
  | putfield i0 =>
    obtain rfl : n = 3 := by simp only [xln] at hln; omega
    simp only [xstep] at h
    rcases xpf_inv h with ⟨i, st', kd, x, rfl, hs, hk, h⟩ | ⟨i, st', x, rfl, hs, h⟩
    · exact xr_putI C hI (hT.2.1 _ (of_decide_eq_true hau)) (xok_obj (okh (okt hst)) hs) hs hk hd (fun H1 locs1 hI1 => hnext hnn h hI1 hL (okt (okt hst)) hb)
    · exact xr_putL C hI (hT.2.1 _ (of_decide_eq_true hau)) (xok_obj (okh (okt hst)) hs) hs hd (fun H1 locs1 hI1 => hnext hnn h hI1 hL (okt (okt hst)) hb)
  | arraylength =>
    obtain rfl : n = 1 := by simp only [xln] at hln; omega
    simp only [xstep] at h
    obtain ⟨t, i, j, st', rfl, ⟨n0, ha, h⟩ | ⟨kd, n0, ha, hk, h⟩⟩ := xal_inv h
    · obtain ⟨rfl, rfl, rfl⟩ := xok_scr (okh hst) ha
      exact xr_scl C hI hd (hnext hnn h hI hL (okc trivial (okt hst)) hb)
    · have hq := xok_arr (okh hst) ha hk
      have := xdom_kd hq
      rw [ha] at this
      exact xr_alen C hI hq ha this hd (hnext hnn h hI hL (okc trivial (okt hst)) hb)
  | iaload =>
    obtain rfl : n = 1 := by simp only [xln] at hln; omega
    simp only [xstep] at h
    obtain ⟨x, t, i, j, st', rfl, h, ⟨n0, ha, -, hin⟩ | ⟨n0, ha, hk, hin⟩⟩ := xga_inv h
    · obtain ⟨rfl, rfl, rfl⟩ := xok_scr (okh (okt hst)) ha
      exact xr_scr C hI hin hd (hnext hnn h hI hL (okc trivial (okt (okt hst))) hb)
    · exact xr_ld C hI (xok_arr (okh (okt hst)) ha hk) ha hin (Or.inl ⟨rfl, hd⟩) (hnext hnn h hI hL (okc trivial (okt (okt hst))) hb)
  | caload =>
    obtain rfl : n = 1 := by simp only [xln] at hln; omega
    simp only [xstep] at h
    obtain ⟨x, t, i, j, st', rfl, h, ⟨n0, ha, hz, hin⟩ | ⟨n0, ha, hk, hin⟩⟩ := xga_inv h
    · exact absurd hz (by decide)
    · exact xr_ld C hI (xok_arr (okh (okt hst)) ha hk) ha hin (Or.inr (Or.inl ⟨rfl, hd⟩)) (hnext hnn h hI hL (okc trivial (okt (okt hst))) hb)
  | baload =>
    obtain rfl : n = 1 := by simp only [xln] at hln; omega
    simp only [xstep] at h
    obtain ⟨x, t, i, j, st', rfl, h, ⟨n0, ha, hz, hin⟩ | ⟨n0, ha, hk, hin⟩⟩ := xga_inv h
    · exact absurd hz (by decide)
    · exact xr_ld C hI (xok_arr (okh (okt hst)) ha hk) ha hin (Or.inr (Or.inr ⟨rfl, hd⟩)) (hnext hnn h hI hL (okc trivial (okt (okt hst))) hb)
  | laload =>
    obtain rfl : n = 1 := by simp only [xln] at hln; omega
    simp only [xstep] at h
    obtain ⟨x, t, i, j, st', n0, rfl, ha, hin, h⟩ := xgl_inv h
    exact xr_ldl C hI (xok_arr (okh (okt hst)) ha (by decide)) ha hin hd (hnext hnn h hI hL (okc trivial (okt (okt hst))) hb)
  | aaload =>
    obtain rfl : n = 1 := by simp only [xln] at hln; omega
    simp only [xstep] at h
    obtain ⟨x, t, i, j, st', kd, n0, rfl, ha, hk, hin, h⟩ := xgr_inv h
    have hq := xok_arr (okh (okt hst)) ha (by omega)
    exact xr_ldr C hI hq ha hk hin hd (hnext hnn h hI hL (okc (Or.inl (xlink4 hq ha hk (xin_lt hin))) (okt (okt hst))) hb)
  | iastore =>
    obtain rfl : n = 1 := by simp only [xln] at hln; omega
    simp only [xstep] at h
    obtain ⟨v, x, t, i, j, st', n0, rfl, ha, hin, hv, h⟩ := xpa_inv h
    exact xr_st C hI (xok_arr (okh (okt (okt hst))) ha (by decide)) ha hin (Or.inl ⟨rfl, rfl, hd⟩) (fun H1 locs1 hI1 => hnext hnn h hI1 hL (okt (okt (okt hst))) hb)
  | castore =>
    obtain rfl : n = 1 := by simp only [xln] at hln; omega
    simp only [xstep] at h
    obtain ⟨v, x, t, i, j, st', n0, rfl, ha, hin, hv, h⟩ := xpa_inv h
    exact xr_st C hI (xok_arr (okh (okt (okt hst))) ha (by decide)) ha hin (Or.inr (Or.inl ⟨rfl, rfl, hd⟩)) (fun H1 locs1 hI1 => hnext hnn h hI1 hL (okt (okt (okt hst))) hb)
  | bastore =>
    obtain rfl : n = 1 := by simp only [xln] at hln; omega
    simp only [xstep] at h
    obtain ⟨v, x, t, i, j, st', n0, rfl, ha, hin, hv, h⟩ := xpa_inv h
    exact xr_st C hI (xok_arr (okh (okt (okt hst))) ha (by decide)) ha hin (Or.inr (Or.inr ⟨rfl, rfl, xbl_or hv, hd⟩)) (fun H1 locs1 hI1 => hnext hnn h hI1 hL (okt (okt (okt hst))) hb)
  | lastore =>
    obtain rfl : n = 1 := by simp only [xln] at hln; omega
    simp only [xstep] at h
    obtain ⟨v, x, t, i, j, st', n0, rfl, ha, hin, h⟩ := xpl_inv h
    exact xr_stl C hI (xok_arr (okh (okt (okt hst))) ha (by decide)) ha hin hd (fun H1 locs1 hI1 => hnext hnn h hI1 hL (okt (okt (okt hst))) hb)
  | invokevirtual i0 =>
    obtain rfl : n = 3 := by simp only [xln] at hln; omega
    simp only [xstep] at h
    unfold xcv at h
    split at h
    · rename_i t i as' rest hp
      replace h := cond_inv h; obtain ⟨ht, h⟩ := h
      replace ht := Nat.eq_of_beq_eq_true ht
      subst ht
      obtain ⟨bs, h1, h2, h3⟩ := xpop_some _ _ _ _ _ hp
      rw [List.append_nil] at h1
      obtain ⟨hsum, rk, F, r0, μ', hm, hF0, hr0, h⟩ := xca_inv h
      subst h3
      have hokb : ∀ v ∈ bs, xok v := fun v hv => hst v (List.mem_append_left _ (List.mem_reverse.mpr hv))
      have hokr : ∀ v ∈ rest, xok v := fun v hv => hst v (List.mem_append_right _ hv)
      rw [← h1] at hokb h2 ⊢
      rw [show (xr t i 0 :: as').reverse ++ rest = as'.reverse ++ xr t i 0 :: rest by simp]
      refine xr_callV C hls hI (hE _ hm) (of_decide_eq_true hau) hokb (by simpa using h2) hr0 hF0 hsum hd hcw (fun mc ms H1 locs1 hmc hms hI1 => ?_)
      refine hnext hnn h hI1 hL ?_ (xbd_call hbd hmc hms)
      intro v hv
      rcases List.mem_append.mp hv with hv | hv
      · rcases r0 with _ | x | x | q
        · cases hv
        · obtain rfl : v = .inl x := by simpa using hv
          trivial
        · obtain rfl : v = .inr (.inl x) := by simpa using hv
          trivial
        · exact absurd rfl (hr0 q)
      · exact hokr v hv
    · cases h
  | invokestatic i0 =>
    obtain rfl : n = 3 := by simp only [xln] at hln; omega
    rcases b with _ | _ | _ | _ | _ | b
    · replace h : xcs env i0 a μ (fun st μ => rec nx L st μ) st = some (r, μr) := h
      unfold xcs at h
      split at h
      · rename_i as' rest hp
        obtain ⟨bs, h1, h2, h3⟩ := xpop_some _ _ _ _ _ hp
        rw [List.append_nil] at h1
        obtain ⟨hsum, rk, F, r0, μ', hm, hF0, hr0, h⟩ := xca_inv h
        subst h3
        have hokb : ∀ v ∈ bs, xok v := fun v hv => hst v (List.mem_append_left _ (List.mem_reverse.mpr hv))
        have hokr : ∀ v ∈ rest, xok v := fun v hv => hst v (List.mem_append_right _ hv)
        rw [← h1] at hokb h2 ⊢
        refine xr_callS C hls hI (hE _ hm) hokb h2 hr0 hF0 hsum hd hcw (fun mc ms H1 locs1 hmc hms hI1 => ?_)
        refine hnext hnn h hI1 hL ?_ (xbd_call hbd hmc hms)
        intro v hv
        rcases List.mem_append.mp hv with hv | hv
        · rcases r0 with _ | x | x | q
          · cases hv
          · obtain rfl : v = .inl x := by simpa using hv
            trivial
          · obtain rfl : v = .inr (.inl x) := by simpa using hv
            trivial
          · exact absurd rfl (hr0 q)
        · exact hokr v hv
      · cases h
    · replace h : xmx (fun st => rec nx L st μ) st = some (r, μr) := h
      unfold xmx at h
      split at h
      · rename_i y x st'
        replace h := cond_inv h; obtain ⟨hs, h⟩ := h
        obtain ⟨-, w1, w2, w3, w4⟩ | ⟨z, -⟩ | ⟨z, -⟩ | ⟨z, -⟩ := hT.2.2.2.2 _ (of_decide_eq_true hau)
        · exact va_mmax hx hbb hmls hown (hts _ w1) (hts _ w2) (hts _ w3) (hts _ w4) hfr (by rw [xsum_xc]; have := Nat.le_of_ble_eq_true hs; omega) hcr.1 hcr.2 hd (hnext hnn h hI hL (okc trivial (okt (okt hst))) hb)
        · cases z
        · cases z
        · cases z
      · cases h
    · replace h : xmn (fun st => rec nx L st μ) st = some (r, μr) := h
      unfold xmn at h
      split at h
      · rename_i y x st'
        replace h := cond_inv h; obtain ⟨hs, h⟩ := h
        obtain ⟨z, -⟩ | ⟨-, w1, w2, w3, w4⟩ | ⟨z, -⟩ | ⟨z, -⟩ := hT.2.2.2.2 _ (of_decide_eq_true hau)
        · cases z
        · exact va_mmin hx hbb hmls hown (hts _ w1) (hts _ w2) (hts _ w3) (hts _ w4) hfr (by rw [xsum_xc]; have := Nat.le_of_ble_eq_true hs; omega) hcr.1 hcr.2 hd (hnext hnn h hI hL (okc trivial (okt (okt hst))) hb)
        · cases z
        · cases z
      · cases h
    · replace h : xab (fun st => rec nx L st μ) st = some (r, μr) := h
      unfold xab at h
      split at h
      · rename_i x st'
        replace h := cond_inv h; obtain ⟨hs, h⟩ := h
        obtain ⟨z, -⟩ | ⟨z, -⟩ | ⟨-, w1, w2, w3, w4⟩ | ⟨z, -⟩ := hT.2.2.2.2 _ (of_decide_eq_true hau)
        · cases z
        · cases z
        · exact va_mabs hx hbb hmls hown (hts _ w1) (hts _ w2) (hts _ w3) (hts _ w4) hfr (by rw [xsum_xc]; have := Nat.le_of_ble_eq_true hs; omega) hcr.1 hcr.2 hd (hnext hnn h hI hL (okc trivial (okt hst)) hb)
        · cases z
      · cases h
    · replace h : xcp μ (fun st μ => bif Nat.ble (xsum st) 8 then rec nx L st μ else none) st = some (r, μr) := h
      obtain ⟨n0, dp, t1, i1, j1, sp, t0, i0', j0, st', m0, m1, rfl, hok, ⟨ha0, ha1, h⟩ | ⟨ha0, ha1, h⟩⟩ := xcp_inv h
      · replace h := cond_inv h; obtain ⟨hs, h⟩ := h
        exact xr_cpi C hls hI (hT.2.2.2.2 _ (of_decide_eq_true hau)) (xok_arr (okh (okt (okt (okt (okt hst))))) ha0 (by decide)) (xok_arr (okh (okt (okt hst))) ha1 (by decide)) ha0 ha1 hok (by rw [xsum_xc]; exact Nat.le_of_ble_eq_true hs) hd (fun H1 locs1 hI1 => hnext hnn h hI1 hL (okt (okt (okt (okt (okt hst))))) hb)
      · replace h := cond_inv h; obtain ⟨hs, h⟩ := h
        exact xr_cpl C hls hI (hT.2.2.2.2 _ (of_decide_eq_true hau)) (xok_arr (okh (okt (okt (okt (okt hst))))) ha0 (by decide)) (xok_arr (okh (okt (okt hst))) ha1 (by decide)) ha0 ha1 hok (by rw [xsum_xc]; exact Nat.le_of_ble_eq_true hs) hd (fun H1 locs1 hI1 => hnext hnn h hI1 hL (okt (okt (okt (okt (okt hst))))) hb)
    · cases h
  | goto off => obtain rfl : n = 3 := by simp only [xln] at hln; omega
                simp only [xstep] at h; exact lv_goto hx hbb hd (of_decide_eq_true hau) (hjump h hI hL hst hb)
  | ifCond cd off =>
    obtain rfl : n = 3 := by simp only [xln] at hln; omega
    simp only [xstep] at h
    have ht : (pc : Int) + off = (a : Int) := of_decide_eq_true hau
    unfold xif at h
    split at h
    · rename_i x st'
      cases cd <;> dsimp only at h
      · refine lv_if_eq hx hbb hd ht (fun q => ?_) (fun q => ?_)
        · rw [xite_t q] at h; exact hjump h hI hL (okt hst) hb
        · rw [xite_f q] at h; exact hnext hnn h hI hL (okt hst) hb
      · refine lv_if_ne hx hbb hd ht (fun q => ?_) (fun q => ?_)
        · rw [xite_f q] at h; exact hjump h hI hL (okt hst) hb
        · rw [xite_t q] at h; exact hnext hnn h hI hL (okt hst) hb
      · refine lv_if_lt hx hbb hd ht (fun q => ?_) (fun q => ?_)
        · rw [xite_t q] at h; exact hjump h hI hL (okt hst) hb
        · rw [xite_f q] at h; exact hnext hnn h hI hL (okt hst) hb
      · refine lv_if_ge hx hbb hd ht (fun q => ?_) (fun q => ?_)
        · rw [xite_f (Int32.not_lt.mpr q)] at h; exact hjump h hI hL (okt hst) hb
        · rw [xite_t (Int32.not_le.mp q)] at h; exact hnext hnn h hI hL (okt hst) hb
      · refine lv_if_gt hx hbb hd ht (fun q => ?_) (fun q => ?_)
        · rw [xite_t q] at h; exact hjump h hI hL (okt hst) hb
        · rw [xite_f q] at h; exact hnext hnn h hI hL (okt hst) hb
      · refine lv_if_le hx hbb hd ht (fun q => ?_) (fun q => ?_)
        · rw [xite_f (Int32.not_lt.mpr q)] at h; exact hjump h hI hL (okt hst) hb
        · rw [xite_t (Int32.not_le.mp q)] at h; exact hnext hnn h hI hL (okt hst) hb
    · cases h
  | if_icmp cd off =>
    obtain rfl : n = 3 := by simp only [xln] at hln; omega
    simp only [xstep] at h
    have ht : (pc : Int) + off = (a : Int) := of_decide_eq_true hau
    unfold xic at h
    split at h
    · rename_i y x st'
      have hst2 := okt (okt hst)
      cases cd <;> dsimp only at h
      · refine lv_icmp_eq hx hbb hd ht (fun q => ?_) (fun q => ?_)
        · rw [xite_t q] at h; exact hjump h hI hL hst2 hb
        · rw [xite_f q] at h; exact hnext hnn h hI hL hst2 hb
      · refine lv_icmp_ne hx hbb hd ht (fun q => ?_) (fun q => ?_)
        · rw [xite_f q] at h; exact hjump h hI hL hst2 hb
        · rw [xite_t q] at h; exact hnext hnn h hI hL hst2 hb
      · refine lv_icmp_lt hx hbb hd ht (fun q => ?_) (fun q => ?_)
        · rw [xite_t q] at h; exact hjump h hI hL hst2 hb
        · rw [xite_f q] at h; exact hnext hnn h hI hL hst2 hb
      · refine lv_icmp_ge hx hbb hd ht (fun q => ?_) (fun q => ?_)
        · rw [xite_f (Int32.not_lt.mpr q)] at h; exact hjump h hI hL hst2 hb
        · rw [xite_t (Int32.not_le.mp q)] at h; exact hnext hnn h hI hL hst2 hb
      · refine lv_icmp_gt hx hbb hd ht (fun q => ?_) (fun q => ?_)
        · rw [xite_t q] at h; exact hjump h hI hL hst2 hb
        · rw [xite_f q] at h; exact hnext hnn h hI hL hst2 hb
      · refine lv_icmp_le hx hbb hd ht (fun q => ?_) (fun q => ?_)
        · rw [xite_f (Int32.not_lt.mpr q)] at h; exact hjump h hI hL hst2 hb
        · rw [xite_t (Int32.not_le.mp q)] at h; exact hnext hnn h hI hL hst2 hb
    · cases h
  | ifnull off =>
    obtain rfl : n = 3 := by simp only [xln] at hln; omega
    simp only [xstep] at h
    unfold xnl at h
    split at h
    · exact lv_ifnullN hx hbb hd (of_decide_eq_true hau) (hjump h hI hL (okt hst) hb)
    · exact lv_ifnull hx hbb hd (hnext hnn h hI hL (okt hst) hb)
    · cases h
  | ifnonnull off =>
    obtain rfl : n = 3 := by simp only [xln] at hln; omega
    simp only [xstep] at h
    unfold xnl at h
    split at h
    · exact lv_ifnonnullN hx hbb hd (hnext hnn h hI hL (okt hst) hb)
    · exact lv_ifnonnull hx hbb hd (of_decide_eq_true hau) (hjump h hI hL (okt hst) hb)
    · cases h
  | tableswitch df lo hi offs =>
    simp only [xstep] at h
    split at h
    · rename_i x st'
      simp only [xau, Bool.and_eq_true] at hau
      obtain ⟨⟨h1, h2⟩, h3⟩ := hau
      have ht : (pc : Int) + df = (a : Int) := of_decide_eq_true h1
      rcases xsw_inv h with ⟨q, hq, hxq, h9⟩ | ⟨hne, h9⟩
      · have h4 := List.all_eq_true.mp h2 q hq
        simp only [Bool.and_eq_true, decide_eq_true_eq] at h4
        rw [← hxq] at h4
        exact lv_tableIn hx hbb hd (by omega) (by omega) h4.2 (tgt := q.2) (by omega) (hjump h9 hI hL (okt hst) hb)
      · refine lv_tableOut hx hbb hd ?_ ht (hjump h9 hI hL (okt hst) hb)
        by_cases h5 : x.toInt < lo
        · exact Or.inl h5
        by_cases h6 : hi < x.toInt
        · exact Or.inr h6
        exfalso
        have h7 := List.all_eq_true.mp h3 (x.toInt - lo).toNat (List.mem_range.mpr (by omega))
        obtain ⟨q, hq, hq2⟩ := List.any_eq_true.mp h7
        have hq3 := of_decide_eq_true hq2
        refine hne q hq (Int32.toInt_inj.mp ?_)
        rw [hq3]
        omega
    · cases h
  | lookupswitch df ps =>
    simp only [xstep] at h
    split at h
    · rename_i x st'
      simp only [xau, Bool.and_eq_true] at hau
      obtain ⟨⟨h1, h2⟩, h3⟩ := hau
      have ht : (pc : Int) + df = (a : Int) := of_decide_eq_true h1
      have h3 := of_decide_eq_true h3
      obtain ⟨t, h4, h5⟩ := xlook ht h
      rw [← h3] at h5
      exact lv_lookup hx hbb hd h2 rfl h5 (hjump h4 hI hL (okt hst) hb)
    · cases h
  | ireturn =>
    obtain rfl : n = 1 := by simp only [xln] at hln; omega
    simp only [xstep] at h
    unfold xret at h
    split at h
    · rename_i x
      cases h
      exact (hF H locs cells slots pc ls hmls.symm hI (xbd_0 hbd).1 (xbd_0 hbd).2).2.1 x rfl (Or.inl rfl) hd
    · rename_i x
      unfold xrb at h
      replace h := cond_inv h; obtain ⟨hv, h⟩ := h
      cases h
      exact (hF H locs cells slots pc ls hmls.symm hI (xbd_0 hbd).1 (xbd_0 hbd).2).2.1 x rfl (Or.inr (Or.inl ⟨rfl, xbl_or hv⟩)) hd
    · rename_i x
      unfold xrc at h
      replace h := cond_inv h; obtain ⟨hv, h⟩ := h
      cases h
      exact (hF H locs cells slots pc ls hmls.symm hI (xbd_0 hbd).1 (xbd_0 hbd).2).2.1 x rfl (Or.inr (Or.inr ⟨rfl, of_decide_eq_true hv⟩)) hd
    · cases h
  | lreturn =>
    obtain rfl : n = 1 := by simp only [xln] at hln; omega
    simp only [xstep] at h
    split at h
    · rename_i x
      cases h
      exact (hF H locs cells slots pc ls hmls.symm hI (xbd_0 hbd).1 (xbd_0 hbd).2).2.2.1 x rfl rfl hd
    · cases h
  | return_ =>
    obtain rfl : n = 1 := by simp only [xln] at hln; omega
    simp only [xstep] at h
    split at h
    · cases h
      exact (hF H locs cells slots pc ls hmls.symm hI (xbd_0 hbd).1 (xbd_0 hbd).2).1 rfl rfl hd
    · cases h
  | new i0 =>
    obtain rfl : n = 3 := by simp only [xln] at hln; omega
    simp only [xstep] at h
    cases h
    exact (hF H locs cells slots pc ls hmls.symm hI (xbd_0 hbd).1 (xbd_0 hbd).2).2.2.2 i0 _ hau rfl hd
  | nop => exact absurd rfl hnop
  | _ => simp only [xstep] at h; cases h
end
section
/-! A BODY -/
set_option maxHeartbeats 1000000 in
theorem xs_body {p : Program} {l : Launch} {e : Env} {R : Room} {s : State} {m : MethodId} {args : Array Value} {below : List Frame} {meth : Method} {c : Code} {Z : State → Prop} {cc : ByteArray} {own : String} {X : XP} {nL : Nat}
    (C : XCt X p R s m args c cc own nL) {tab : List XE} {env : XN} {rt K : Nat} {nw : Bool} {fl : List (Nat × Nat × Nat)} {cl : List (Nat × Int32)} {ll : List (Nat × Int64)} {jl : List (Nat × Nat)} (hT : xtab own cc nw fl cl ll jl tab)
    {ac as capc caps : Nat} (hE : ∀ q ∈ env, xcal X l R own ac as q) (hcap : capc ≤ R.cells ∧ caps ≤ R.slots) {r : Option XV} {μr : XM}
    (hF : XFin p l e R s m args below meth c Z cc X nw rt capc caps r μr) :
    ∀ n : Nat, (∀ h L st μ H locs cells slots ls, arr tab env rt K n h L st μ = some (r, μr) → XI X s μ H locs → xloc X ls nL L → (∀ v ∈ st, xok v) → xbd capc caps ac as (n * (K + 1)) cells slots → W p l e R s m args below meth c H locs cells slots Z (F0 m h ls (st.map (xc X)))) ∧
      ∀ k : Nat, ∀ (e' : XE) (nx pre : List XE), tab = pre ++ e' :: nx → ∀ L st μ H locs cells slots ls, ex (arr tab env rt K n) tab env rt k (e' :: nx) L st μ = some (r, μr) → XI X s μ H locs → xloc X ls nL L → (∀ v ∈ st, xok v) → xbd capc caps ac as (n * (K + 1) + k) cells slots → W p l e R s m args below meth c H locs cells slots Z (F0 m e'.1 ls (st.map (xc X))) := by
  have hnil : ∀ (A : Nat → XL → List XV → XM → XR) (k : Nat) (L : XL) (st : List XV) (μ : XM), ex A tab env rt k [] L st μ = none := by
    intro A k L st μ
    cases k <;> rfl
  have hex : ∀ n : Nat, (∀ h L st μ H locs cells slots ls, arr tab env rt K n h L st μ = some (r, μr) → XI X s μ H locs → xloc X ls nL L → (∀ v ∈ st, xok v) → xbd capc caps ac as (n * (K + 1)) cells slots → W p l e R s m args below meth c H locs cells slots Z (F0 m h ls (st.map (xc X)))) →
      ∀ k : Nat, ∀ (e' : XE) (nx pre : List XE), tab = pre ++ e' :: nx → ∀ L st μ H locs cells slots ls, ex (arr tab env rt K n) tab env rt k (e' :: nx) L st μ = some (r, μr) → XI X s μ H locs → xloc X ls nL L → (∀ v ∈ st, xok v) → xbd capc caps ac as (n * (K + 1) + k) cells slots → W p l e R s m args below meth c H locs cells slots Z (F0 m e'.1 ls (st.map (xc X))) := by
    intro n hA k
    induction k with
    | zero => intro e' nx pre _ L st μ H locs cells slots ls h; cases h
    | succ k ih =>
      intro e' nx pre htab L st μ H locs cells slots ls h hI hL hst hbd
      exact xs_step C hT hE hcap hF (A := arr tab env rt K n) (rec := ex (arr tab env rt K n) tab env rt k) (w := n * (K + 1) + k) (wA := n * (K + 1)) (Nat.le_add_right _ _) hA (hnil _ k) ih htab h hI hL hst hbd
  intro n
  induction n with
  | zero => exact ⟨(fun h L st μ H locs cells slots ls q => by cases q), hex 0 (fun h L st μ H locs cells slots ls q => by cases q)⟩
  | succ n ih =>
    have hA : ∀ h L st μ H locs cells slots ls, arr tab env rt K (n + 1) h L st μ = some (r, μr) → XI X s μ H locs → xloc X ls nL L → (∀ v ∈ st, xok v) → xbd capc caps ac as ((n + 1) * (K + 1)) cells slots → W p l e R s m args below meth c H locs cells slots Z (F0 m h ls (st.map (xc X))) := by
      intro h L st μ H locs cells slots ls q hI hL hst hbd
      replace q : ex (arr tab env rt K n) tab env rt K (xhd (xseek h tab)) L st μ = some (r, μr) := q
      rcases xseek_at tab h with h6 | ⟨pre', e', nx', h6, h7, h8⟩
      · rw [h6] at q
        rw [show xhd ([] : List XE) = [] from rfl, hnil] at q
        cases q
      · rw [h7] at q
        obtain ⟨pc, ins, a⟩ := e'
        by_cases hnop : ins = .nop
        · subst hnop
          replace q : ex (arr tab env rt K n) tab env rt K nx' L st μ = some (r, μr) := q
          cases nx' with
          | nil => rw [hnil] at q; cases q
          | cons e2 nx2 =>
            obtain ⟨n1, hn1, hnx⟩ := xwf_at hT.1 h6
            have e3 : n1 = pc := by
              have : xnx own cc nw fl cl ll jl (pc, Instr.nop, a) = some pc := by unfold xnx; rw [if_pos rfl]
              rw [this] at hn1
              exact (Option.some.inj hn1).symm
            have e4 := hnx e2 nx2 rfl
            have e5 : e2.1 = h := by rw [← e4, e3]; exact h8
            rw [← e5]
            refine ih.2 K e2 nx2 (pre' ++ [(pc, .nop, a)]) (by rw [h6]; simp) _ _ _ _ _ _ _ _ q hI hL hst (xbd_le hbd ?_)
            rw [Nat.succ_mul]
            omega
        · have : xhd ((pc, ins, a) :: nx') = [] := by cases ins <;> first | rfl | exact absurd rfl hnop
          rw [this, hnil] at q
          cases q
    exact ⟨hA, hex (n + 1) hA⟩
/-- the locals at a method's start -/
def xargs : List XV → XL
  | [] => []
  | .inr (.inl x) :: vs => some (.inr (.inl x)) :: none :: xargs vs
  | v :: vs => some v :: xargs vs
def xlo (av : List XV) (n : Nat) : XL := xargs av ++ List.replicate (n - (xargs av).length) none
theorem xlv_repl (X : XP) (k n : Nat) : xlv X k (List.replicate n none) = [] := by
  induction n generalizing k with
  | zero => rfl
  | succ n ih => simp [List.replicate_succ, xlv, ih]
theorem xlv_app (X : XP) : ∀ (L M : XL) (k : Nat), xlv X k (L ++ M) = xlv X k L ++ xlv X (k + L.length) M := by
  intro L
  induction L with
  | nil => intro M k; simp [xlv]
  | cons a L ih =>
    intro M k
    cases a <;> simp [xlv, ih, Nat.add_assoc, Nat.add_comm 1]
theorem xargs_lv (X : XP) : ∀ (av : List XV) (k : Nat), xlv X k (xargs av) = lv_args k (av.map (xc X)) := by
  intro av
  induction av with
  | nil => intro k; rfl
  | cons v av ih =>
    intro k
    rcases v with x | x | x
    · show (k, Value.int x) :: xlv X (k + 1) (xargs av) = _
      rw [ih]; rfl
    · show (k, Value.long x) :: xlv X (k + 1 + 1) (xargs av) = _
      rw [ih]; rfl
    · show (k, xc X (.inr (.inr x))) :: xlv X (k + 1) (xargs av) = _
      rw [ih]
      cases x <;> rfl
theorem xargs_sl (X : XP) : ∀ (av : List XV), (lg_sl (av.map (xc X))).length = (xargs av).length := by
  intro av
  induction av with
  | nil => rfl
  | cons v av ih =>
    rcases v with x | x | x
    · show (lg_sl (Value.int x :: av.map (xc X))).length = (xargs av).length + 1
      rw [← ih]; simp [lg_sl, Value.category]
    · show (lg_sl (Value.long x :: av.map (xc X))).length = (xargs av).length + 1 + 1
      rw [← ih]; simp [lg_sl, Value.category]
    · show (lg_sl (xc X (.inr (.inr x)) :: av.map (xc X))).length = (xargs av).length + 1
      rw [← ih]
      cases x <;> simp [lg_sl, xc, Value.category]
theorem xargs_ok : ∀ (av : List XV), (∀ v ∈ av, xok v) → ∀ v, some v ∈ xargs av → xok v := by
  intro av
  induction av with
  | nil => intro _ v h; cases h
  | cons w av ih =>
    intro h v hv
    have h2 := ih (okt h)
    rcases w with x | x | x
    · rcases List.mem_cons.mp hv with hv | hv
      · cases hv; trivial
      · exact h2 v hv
    · rcases List.mem_cons.mp hv with hv | hv
      · cases hv; trivial
      · rcases List.mem_cons.mp hv with hv | hv
        · cases hv
        · exact h2 v hv
    · rcases List.mem_cons.mp hv with hv | hv
      · cases hv; exact okh h
      · exact h2 v hv
def xrtk (ret : Option FieldType) : Nat := match ret with | none => 0 | some .int => 1 | some .boolean => 2 | some .char => 3 | some .long => 4 | _ => 9
set_option maxHeartbeats 1000000 in
/-- a method's contract, out of its table and its function -/
theorem Ctr_of {X : XP} (hX : XOK X) {l : Launch} {y : MethodName} {cc : ByteArray} {maxL : Nat} {ret : Option FieldType} {rm : Room} {F : XF} {tab : List XE} {env : XN} {K N : Nat} {fl : List (Nat × Nat × Nat)} {cl : List (Nat × Int32)} {ll : List (Nat × Int64)} {jl : List (Nat × Nat)}
    (hy : plainName y.cls = true) (hT : xtab y.cls cc false fl cl ll jl tab) (hE : ∀ q ∈ env, xcal X l rm y.cls 0 0 q) (hrm : rm.cells = 0 ∧ rm.slots = 0 ∧ 1 ≤ rm.frames ∧ 100 ≤ rm.locals) (h0 : ∃ e0 nx, tab = e0 :: nx ∧ e0.1 = 0)
    (hF : ∀ av μ r μ', F av μ = some (r, μ') → (xargs av).length ≤ maxL ∧ xrun tab env (xrtk ret) K N (xlo av maxL) μ = some (r, μ')) : Ctr X l y cc maxL ret rm 0 0 F := by
  intro av μ r μ' hok h
  obtain ⟨hlen, h⟩ := hF av μ r μ' h
  refine Met.ofW (cc := cc) (maxL := maxL) (ret := ret) hy rfl ?_
  intro p e s m args below meth c s₁ B hml hv
  obtain ⟨rfl, hP, hK, hC, hscr⟩ := hv
  have hown : s.vm.findClass y.cls = some m.cls := findClass_of_methodNamed B.named
  have hts : ∀ w ∈ xG, w.before (av.map (xc X)).toArray s = true := fun w hw => atoms_spec (ws := Cond.code y cc maxL ret :: xG) B.pre w (List.mem_cons_of_mem _ hw)
  have CC : XCt X p (headSpec (Cond.code y cc maxL ret :: xG) rm).room s m (av.map (xc X)).toArray c cc y.cls maxL := ⟨B.exec, B.bytes, hml, hown, hts, hK, hC, hX, hrm.2.2.1, hrm.2.2.2⟩
  have hI : XI X s μ s.heap [] := ⟨hP, va_S.rf, hscr⟩
  rw [lg_entry_eq]
  have hl := lv_entry (av.map (xc X)) (n := maxL) (by rw [xargs_sl]; exact hlen)
  generalize (lg_sl (av.map (xc X)) ++ List.replicate (maxL - (lg_sl (av.map (xc X))).length) Slot.unset).toArray = ls at hl ⊢
  have hL : xloc X ls maxL (xlo av maxL) := by
    refine ⟨?_, by simp [xlo]; omega, ?_⟩
    · unfold xlo
      rw [xlv_app, xlv_repl, List.append_nil, xargs_lv]
      exact hl
    · intro v hv
      rcases List.mem_append.mp hv with hv | hv
      · exact xargs_ok av hok v hv
      · exact absurd (List.eq_of_mem_replicate hv) (by simp)
  have hfin : XFin p l e (headSpec (Cond.code y cc maxL ret :: xG) rm).room s m (av.map (xc X)).toArray below meth c (MQ below (xQ X r μ') (av.map (xc X)).toArray s 0 0 (xA X)) cc X false (xrtk ret) 0 0 r μ' := by
    intro H locs cells slots pc ls' hsz hI' hc hs
    obtain rfl : cells = 0 := by omega
    obtain rfl : slots = 0 := by omega
    refine ⟨fun hrt hr hd => ?_, fun x hr hrt hd => ?_, fun x hrt hr hd => ?_, fun idx st hz => by cases hz⟩
    · subst hr
      have hret : ret = none := by
        unfold xrtk at hrt; split at hrt <;> first | rfl | omega
      exact W.vret CC.1 CC.2.1 (by rw [B.returns]; exact hret) (fun t ht hW => ⟨⟨(), rfl, trivial, xW_now CC hI' ht hW⟩, hI'.2.1.F ht⟩) hI'.2.1.2.2 hd (hlocks := B.notSynchronized)
    · subst hr
      have hq : ∀ t : State, t.heap = H → s.WarmedH t.vm → xQ X (some (xi x)) μ' (av.map (xc X)).toArray s (.returned (some (.int x))) t := fun t ht hW => ⟨⟨x, (), rfl, rfl, xW_now CC hI' ht hW⟩, hI'.2.1.F ht⟩
      rcases hrt with hrt | ⟨hrt, hv⟩ | ⟨hrt, hv⟩
      · have hret : ret = some .int := by
          unfold xrtk at hrt; split at hrt <;> first | rfl | omega
        exact W.iret CC.1 CC.2.1 (by rw [B.returns]; exact hret) hq hI'.2.1.2.2 hd (hlocks := B.notSynchronized)
      · have hret : ret = some .boolean := by
          unfold xrtk at hrt; split at hrt <;> first | rfl | omega
        exact W.zret (ty := .boolean) CC.1 CC.2.1 (by rw [B.returns]; exact hret) (by rcases hv with rfl | rfl <;> decide +kernel) hq hI'.2.1.2.2 hd (hlocks := B.notSynchronized)
      · have hret : ret = some .char := by
          unfold xrtk at hrt; split at hrt <;> first | rfl | omega
        have hn : narrow .char (.int x) = .int x := by
          have h9 : narrow .char (.int x) = .int (vp_nar .char x) := rfl
          rw [h9, hv]
        exact W.zret (ty := .char) CC.1 CC.2.1 (by rw [B.returns]; exact hret) hn hq hI'.2.1.2.2 hd (hlocks := B.notSynchronized)
    · subst hr
      have hret : ret = some .long := by
        unfold xrtk at hrt; split at hrt <;> first | rfl | omega
      exact W.lret CC.1 CC.2.1 (by rw [B.returns]; exact hret) (fun t ht hW => ⟨⟨x, (), rfl, rfl, xW_now CC hI' ht hW⟩, hI'.2.1.F ht⟩) hI'.2.1.2.2 hd (hlocks := B.notSynchronized)
  obtain ⟨e0, nx, htab, he0⟩ := h0
  have hrun : ex (arr tab env (xrtk ret) K N) tab env (xrtk ret) K (e0 :: nx) (xlo av maxL) [] μ = some (r, μ') := by
    have : xrun tab env (xrtk ret) K N (xlo av maxL) μ = ex (arr tab env (xrtk ret) K N) tab env (xrtk ret) K tab (xlo av maxL) [] μ := rfl
    rw [this] at h
    rw [← htab]; exact h
  have := (xs_body CC hT hE (ac := 0) (as := 0) (capc := 0) (caps := 0) ⟨Nat.zero_le _, Nat.zero_le _⟩ hfin N).2 K e0 nx [] htab (xlo av maxL) [] μ s.heap [] 0 0 ls hrun hI hL (fun v h => absurd h List.not_mem_nil) ⟨by simp, by simp⟩
  rw [he0] at this
  exact this
end
section
/-! the tables' words by class: links of fields, constants, methods -/
theorem xG_k {l : List Cond} {w : Cond} (hl : ∀ w ∈ l, w ∈ lw_tbl) (i : Nat) (h : l[i]? = some w) (hg : goodWord w = true) : w ∈ xG := List.mem_filter.mpr ⟨hl w (List.mem_of_getElem? h), hg⟩
theorem xT_1 : ∀ w ∈ tables_1_1, w ∈ lw_tbl := fun w h => List.mem_append_right _ (List.mem_append_left _ h)
theorem xT_2 : ∀ w ∈ tables_1_2, w ∈ lw_tbl := fun w h => List.mem_append_right _ (List.mem_append_right _ (List.mem_append_left _ h))
theorem xT_3 : ∀ w ∈ tables_1_3, w ∈ lw_tbl := fun w h => List.mem_append_right _ (List.mem_append_right _ (List.mem_append_right _ (List.mem_append_left _ h)))
theorem xT_4 : ∀ w ∈ tables_1_4, w ∈ lw_tbl := fun w h => List.mem_append_right _ (List.mem_append_right _ (List.mem_append_right _ (List.mem_append_right _ (List.mem_append_left _ h))))
theorem xT_5 : ∀ w ∈ tables_1_5, w ∈ lw_tbl := fun w h => List.mem_append_right _ (List.mem_append_right _ (List.mem_append_right _ (List.mem_append_right _ (List.mem_append_right _ (List.mem_append_left _ h)))))
theorem xT_6 : ∀ w ∈ tables_1_6, w ∈ lw_tbl := fun w h => List.mem_append_right _ (List.mem_append_right _ (List.mem_append_right _ (List.mem_append_right _ (List.mem_append_right _ (List.mem_append_right _ (List.mem_append_left _ h))))))
theorem xT_7 : ∀ w ∈ tables_1_7, w ∈ lw_tbl := fun w h => List.mem_append_right _ (List.mem_append_right _ (List.mem_append_right _ (List.mem_append_right _ (List.mem_append_right _ (List.mem_append_right _ (List.mem_append_right _ (List.mem_append_left _ h)))))))
theorem xT_8 : ∀ w ∈ tables_1_8, w ∈ lw_tbl := fun w h => List.mem_append_right _ (List.mem_append_right _ (List.mem_append_right _ (List.mem_append_right _ (List.mem_append_right _ (List.mem_append_right _ (List.mem_append_right _ (List.mem_append_right _ (List.mem_append_left _ h))))))))
theorem xT_9 : ∀ w ∈ tables_1_9, w ∈ lw_tbl := fun w h => List.mem_append_right _ (List.mem_append_right _ (List.mem_append_right _ (List.mem_append_right _ (List.mem_append_right _ (List.mem_append_right _ (List.mem_append_right _ (List.mem_append_right _ (List.mem_append_right _ (h)))))))))
theorem xV_1 : ∀ q ∈ lw_privs_1, q ∈ lw_privs := fun q h => List.mem_append_left _ h
theorem xV_2 : ∀ q ∈ lw_privs_2, q ∈ lw_privs := fun q h => List.mem_append_right _ (List.mem_append_left _ h)
theorem xV_3 : ∀ q ∈ lw_privs_3, q ∈ lw_privs := fun q h => List.mem_append_right _ (List.mem_append_right _ (List.mem_append_left _ h))
theorem xV_4 : ∀ q ∈ lw_privs_4, q ∈ lw_privs := fun q h => List.mem_append_right _ (List.mem_append_right _ (List.mem_append_right _ (List.mem_append_left _ h)))
theorem xV_5 : ∀ q ∈ lw_privs_5, q ∈ lw_privs := fun q h => List.mem_append_right _ (List.mem_append_right _ (List.mem_append_right _ (List.mem_append_right _ (List.mem_append_left _ h))))
theorem xV_6 : ∀ q ∈ lw_privs_6, q ∈ lw_privs := fun q h => List.mem_append_right _ (List.mem_append_right _ (List.mem_append_right _ (List.mem_append_right _ (List.mem_append_right _ (List.mem_append_left _ h)))))
theorem xV_7 : ∀ q ∈ lw_privs_7, q ∈ lw_privs := fun q h => List.mem_append_right _ (List.mem_append_right _ (List.mem_append_right _ (List.mem_append_right _ (List.mem_append_right _ (List.mem_append_right _ (List.mem_append_left _ h))))))
theorem xV_8 : ∀ q ∈ lw_privs_8, q ∈ lw_privs := fun q h => List.mem_append_right _ (List.mem_append_right _ (List.mem_append_right _ (List.mem_append_right _ (List.mem_append_right _ (List.mem_append_right _ (List.mem_append_right _ (h)))))))
theorem xG_s {l : List (MethodName × Nat)} {q : MethodName × Nat} (hl : ∀ q ∈ l, q ∈ lw_privs) (i : Nat) (h : l[i]? = some q) : Cond.selects q.1.cls q.1 q.1 ∈ xG := List.mem_filter.mpr ⟨List.mem_append_left _ (List.mem_map.mpr ⟨q, hl q (List.mem_of_getElem? h), rfl⟩), rfl⟩
/-- what a method's callers need: its own words -/
def xmf (y : MethodName) (b : ByteArray) (n : Nat) (r : Option FieldType) : Prop := Cond.code y b n r ∈ xG ∧ Cond.initialized y.cls ∈ xG ∧ (y.cls ≠ "java/lang/invoke/MethodHandle" ∧ y.cls ≠ "java/lang/invoke/VarHandle") ∧ plainName y.cls = true
def xrm (n : Nat) : Room := { frames := n, cells := 0, slots := 0, locals := 40 * n + 100 }
theorem xrm_ok {k n m : Nat} (h : k < n) (hm : m ≤ 21) : (xrm k).frames + 1 ≤ (xrm n).frames ∧ 8 + (m + 11) + (xrm k).locals ≤ (xrm n).locals := ⟨h, by show 8 + (m + 11) + (40 * k + 100) ≤ 40 * n + 100; omega⟩
theorem xrm_1 {n : Nat} (h : 1 ≤ n) : (xrm n).cells = 0 ∧ (xrm n).slots = 0 ∧ 1 ≤ (xrm n).frames ∧ 100 ≤ (xrm n).locals := ⟨rfl, rfl, h, by show 100 ≤ 40 * n + 100; omega⟩
theorem xcal_v {X : XP} {l : Launch} {R : Room} {own : String} {y : MethodName} {b : ByteArray} {n idx rk na tg : Nat} {r : Option FieldType} {rm : Room} {F : XF} (h : Ctr X l y b n r rm 0 0 F) (hm : xmf y b n r) (hrm : rm.cells = 0 ∧ rm.slots = 0) (hl : Cond.methodLink own idx y ∈ xG) (hi : Cond.instanceMethod y ∈ xG) (hs : Cond.selects y.cls y y ∈ xG) (hR : rm.frames + 1 ≤ R.frames ∧ 8 + (n + 11) + rm.locals ≤ R.locals) (hc : y.cls = xcn tg) (ht : tg ≠ 99) (hn : (parseMethodDescriptor y.desc).map (fun d => d.parameters.length) = some na) : xcal X l R own 0 0 (idx, rk, na + 1, tg, F) :=
  Or.inl ⟨y, b, n, r, rm, 0, 0, h, hrm.1, hrm.2, Nat.le_refl _, Nat.le_refl _, hm.1, hl, hm.2.1, hm.2.2.1, hR.1, hR.2, Or.inr ⟨ht, hi, hs, hc, na, rfl, hn⟩⟩
theorem xcal_s {X : XP} {l : Launch} {R : Room} {own : String} {y : MethodName} {b : ByteArray} {n idx rk na : Nat} {r : Option FieldType} {rm : Room} {F : XF} (h : Ctr X l y b n r rm 0 0 F) (hm : xmf y b n r) (hrm : rm.cells = 0 ∧ rm.slots = 0) (hl : Cond.methodLink own idx y ∈ xG) (hs : Cond.static y ∈ xG) (hR : rm.frames + 1 ≤ R.frames ∧ 8 + (n + 11) + rm.locals ≤ R.locals) (hn : (parseMethodDescriptor y.desc).map (fun d => d.parameters.length) = some na) : xcal X l R own 0 0 (idx, rk, na, 99, F) :=
  Or.inl ⟨y, b, n, r, rm, 0, 0, h, hrm.1, hrm.2, Nat.le_refl _, Nat.le_refl _, hm.1, hl, hm.2.1, hm.2.2.1, hR.1, hR.2, Or.inl ⟨rfl, hs, hn⟩⟩
def y8_copyFrom : MethodName := ⟨xR8, "copyFrom", "(LSilenceBall$Scene;)V"⟩
def y10_begin : MethodName := ⟨xR10, "begin", "()V"⟩
def y1_readLine : MethodName := ⟨xR1, "readLine", "(LSilenceBall$Tape;LSilenceBall$House;)Z"⟩
def y10_wrong : MethodName := ⟨xR10, "wrong", "(I)Z"⟩
def y10_advance : MethodName := ⟨xR10, "advance", "()V"⟩
def y1_readName : MethodName := ⟨xR1, "readName", "(LSilenceBall$Tape;[JI[I)Z"⟩
def y10_take : MethodName := ⟨xR10, "take", "(I)Z"⟩
def y10_isName : MethodName := ⟨xR10, "isName", "()Z"⟩
def y2_find : MethodName := ⟨xR2, "find", "([JIJ)I"⟩
def y8_begin : MethodName := ⟨xR8, "begin", "()V"⟩
def y1_play : MethodName := ⟨xR1, "play", "(ILSilenceBall$Scene;)I"⟩
def y8_whoIs : MethodName := ⟨xR8, "whoIs", "(I)I"⟩
def yJ_bitCount : MethodName := ⟨"java/lang/Integer", "bitCount", "(I)I"⟩
def y8_pass : MethodName := ⟨xR8, "pass", "()I"⟩
def y8_canAsk : MethodName := ⟨xR8, "canAsk", "()Z"⟩
def y8_openGap : MethodName := ⟨xR8, "openGap", "()V"⟩
def y8_canStop : MethodName := ⟨xR8, "canStop", "(I)Z"⟩
def y8_closeGap : MethodName := ⟨xR8, "closeGap", "(I)V"⟩
def y8_canCast : MethodName := ⟨xR8, "canCast", "(III)Z"⟩
def y8_giveBelt : MethodName := ⟨xR8, "giveBelt", "(III)V"⟩
def y4_clear : MethodName := ⟨xR4, "clear", "()V"⟩
def y4_copyFrom : MethodName := ⟨xR4, "copyFrom", "(LSilenceBall$Law;)V"⟩
def y2_isBorne : MethodName := ⟨xR2, "isBorne", "(II)Z"⟩
def y2_beltsFrom : MethodName := ⟨xR2, "beltsFrom", "(II)I"⟩
def y2_guestsFrom : MethodName := ⟨xR2, "guestsFrom", "(II)I"⟩
def y9_allows : MethodName := ⟨xR9, "allows", "(LSilenceBall$Inquest;I)Z"⟩
def y3_possible : MethodName := ⟨xR3, "possible", "(LSilenceBall$Seen;)I"⟩
def y3_mostAlike : MethodName := ⟨xR3, "mostAlike", "(II)I"⟩
def y3_depthBehind : MethodName := ⟨xR3, "depthBehind", "(II)I"⟩
def y3_manyAsDeep : MethodName := ⟨xR3, "manyAsDeep", "(III)I"⟩
def y4_add : MethodName := ⟨xR4, "add", "(I)V"⟩
def y4_push : MethodName := ⟨xR4, "push", "(I)V"⟩
def y4_pop : MethodName := ⟨xR4, "pop", "()I"⟩
def y4_joined : MethodName := ⟨xR4, "joined", "(III)I"⟩
def y9_copyFrom : MethodName := ⟨xR9, "copyFrom", "(LSilenceBall$Seen;)V"⟩
def y6_chooseGuests : MethodName := ⟨xR6, "chooseGuests", "(II)V"⟩
def y8_wall : MethodName := ⟨xR8, "wall", "()I"⟩
def y6_chooseBelts : MethodName := ⟨xR6, "chooseBelts", "(II)Z"⟩
def y6_keepTried : MethodName := ⟨xR6, "keepTried", "(I)V"⟩
def y8_isCrying : MethodName := ⟨xR8, "isCrying", "(I)Z"⟩
def y8_canReach : MethodName := ⟨xR8, "canReach", "(II)Z"⟩
def y2_clear : MethodName := ⟨xR2, "clear", "()V"⟩
def y7_readGuest : MethodName := ⟨xR7, "readGuest", "(I)Z"⟩
def y7_readBelt : MethodName := ⟨xR7, "readBelt", "(I)Z"⟩
def y7_readMan : MethodName := ⟨xR7, "readMan", "(I)Z"⟩
def y7_readGaps : MethodName := ⟨xR7, "readGaps", "()Z"⟩
def y7_readWater : MethodName := ⟨xR7, "readWater", "()Z"⟩
def y7_readLaw : MethodName := ⟨xR7, "readLaw", "()Z"⟩
def y7_readName : MethodName := ⟨xR7, "readName", "([JI)Z"⟩
def y7_readKind : MethodName := ⟨xR7, "readKind", "([II)Z"⟩
def y7_readMeasure : MethodName := ⟨xR7, "readMeasure", "(III[II)Z"⟩
def y2_addGuest : MethodName := ⟨xR2, "addGuest", "()V"⟩
def y10_isNumber : MethodName := ⟨xR10, "isNumber", "(II)Z"⟩
def y7_readE : MethodName := ⟨xR7, "readE", "(I)Z"⟩
def y2_isTold : MethodName := ⟨xR2, "isTold", "(J)Z"⟩
def y7_readTest : MethodName := ⟨xR7, "readTest", "(I)Z"⟩
def y7_write : MethodName := ⟨xR7, "write", "(I)Z"⟩
def y7_readSum : MethodName := ⟨xR7, "readSum", "(I)Z"⟩
def y7_readProduct : MethodName := ⟨xR7, "readProduct", "(I)Z"⟩
def y7_readPart : MethodName := ⟨xR7, "readPart", "(I)Z"⟩
def y10_isFact : MethodName := ⟨xR10, "isFact", "()Z"⟩
def y4_addNumber : MethodName := ⟨xR4, "addNumber", "(I)V"⟩
def y4_addKind : MethodName := ⟨xR4, "addKind", "(I)V"⟩
def y2_isGuest : MethodName := ⟨xR2, "isGuest", "(I)Z"⟩
def y2_isBelt : MethodName := ⟨xR2, "isBelt", "(I)Z"⟩
def y8_holderOf : MethodName := ⟨xR8, "holderOf", "(I)I"⟩
def y2_isMan : MethodName := ⟨xR2, "isMan", "(I)Z"⟩
def y2_canDrown : MethodName := ⟨xR2, "canDrown", "(I)Z"⟩
def y2_isShabby : MethodName := ⟨xR2, "isShabby", "(I)Z"⟩
def y8_wantsBelt : MethodName := ⟨xR8, "wantsBelt", "(I)Z"⟩
def y8_isFree : MethodName := ⟨xR8, "isFree", "(I)Z"⟩
def y8_isOnWall : MethodName := ⟨xR8, "isOnWall", "(I)Z"⟩
def y8_isIn : MethodName := ⟨xR8, "isIn", "(I)Z"⟩
def y8_drowns : MethodName := ⟨xR8, "drowns", "(I)Z"⟩
def y8_comeNearer : MethodName := ⟨xR8, "comeNearer", "(I)V"⟩
def y8_rise : MethodName := ⟨xR8, "rise", "()V"⟩
def y8_isUnder : MethodName := ⟨xR8, "isUnder", "(I)Z"⟩
def y4_value : MethodName := ⟨xR4, "value", "(IIII)I"⟩
def y10_signAt : MethodName := ⟨xR10, "signAt", "(I)C"⟩
def y10_isBlank : MethodName := ⟨xR10, "isBlank", "(C)Z"⟩
def y10_isLetter : MethodName := ⟨xR10, "isLetter", "(C)Z"⟩
def y10_kindOf : MethodName := ⟨xR10, "kindOf", "(J)I"⟩
def y10_isDigit : MethodName := ⟨xR10, "isDigit", "(C)Z"⟩
def yS_indexOf : MethodName := ⟨"java/lang/String", "indexOf", "(I)I"⟩
def yS_length : MethodName := ⟨"java/lang/String", "length", "()I"⟩
def yS_charAt : MethodName := ⟨"java/lang/String", "charAt", "(I)C"⟩
def y10_putEight : MethodName := ⟨xR10, "putEight", "(J)V"⟩
def y7_read : MethodName := ⟨xR7, "read", "()I"⟩
def y10_clear : MethodName := ⟨xR10, "clear", "()V"⟩
def y2_copyFrom : MethodName := ⟨xR2, "copyFrom", "(LSilenceBall$House;)V"⟩
def y1_clear : MethodName := ⟨xR1, "clear", "()V"⟩
def y9_clear : MethodName := ⟨xR9, "clear", "()V"⟩
def y0_clear : MethodName := ⟨xR0, "clear", "()V"⟩
def y11_liftMarks : MethodName := ⟨xR11, "liftMarks", "()V"⟩
def y5_lift : MethodName := ⟨xR5, "lift", "()V"⟩
def y1_read : MethodName := ⟨xR1, "read", "(LSilenceBall$Tape;LSilenceBall$House;)I"⟩
def y1_copyFrom : MethodName := ⟨xR1, "copyFrom", "(LSilenceBall$Evening;)V"⟩
def y0_keep : MethodName := ⟨xR0, "keep", "(LSilenceBall$Scene;)V"⟩
def y0_bringBack : MethodName := ⟨xR0, "bringBack", "(LSilenceBall$Scene;)Z"⟩
def y1_judge : MethodName := ⟨xR1, "judge", "(LSilenceBall$Scene;I)I"⟩
def y8_criers : MethodName := ⟨xR8, "criers", "()I"⟩
def y11_goAhead : MethodName := ⟨xR11, "goAhead", "(I)V"⟩
def y11_minutesUntil : MethodName := ⟨xR11, "minutesUntil", "(II)I"⟩
def y8_isInState : MethodName := ⟨xR8, "isInState", "(II)Z"⟩
def y11_lowestBit : MethodName := ⟨xR11, "lowestBit", "(I)I"⟩
def y8_borneBy : MethodName := ⟨xR8, "borneBy", "(I)I"⟩
def y6_plan : MethodName := ⟨xR6, "plan", "()V"⟩
def y2_bearsAll : MethodName := ⟨xR2, "bearsAll", "(II)Z"⟩
def y2_bearing : MethodName := ⟨xR2, "bearing", "(I)I"⟩
def y2_leastBelt : MethodName := ⟨xR2, "leastBelt", "(I)I"⟩
def y8_manyAt : MethodName := ⟨xR8, "manyAt", "(I)I"⟩
def y11_isSavedBy : MethodName := ⟨xR11, "isSavedBy", "(III)Z"⟩
def y9_add : MethodName := ⟨xR9, "add", "(II)Z"⟩
def y3_open : MethodName := ⟨xR3, "open", "(LSilenceBall$Scene;)V"⟩
def y3_tellingMinute : MethodName := ⟨xR3, "tellingMinute", "(LSilenceBall$Seen;)I"⟩
def y11_weightOf : MethodName := ⟨xR11, "weightOf", "(III)I"⟩
def y11_isSunkBy : MethodName := ⟨xR11, "isSunkBy", "(III)Z"⟩
def y11_isPrize : MethodName := ⟨xR11, "isPrize", "(I)Z"⟩
def y11_gain : MethodName := ⟨xR11, "gain", "(IIIII)I"⟩
def y11_playBalls : MethodName := ⟨xR11, "playBalls", "(II)I"⟩
def y11_nextDraw : MethodName := ⟨xR11, "nextDraw", "(J)J"⟩
def y11_below : MethodName := ⟨xR11, "below", "(JI)I"⟩
def y11_dance : MethodName := ⟨xR11, "dance", "(IIII)I"⟩
def y5_lay : MethodName := ⟨xR5, "lay", "(LSilenceBall$Scene;LSilenceBall$Seen;)V"⟩
def y5_bringBack : MethodName := ⟨xR5, "bringBack", "(LSilenceBall$Scene;LSilenceBall$Seen;)Z"⟩
def y12_lay : MethodName := ⟨xR12, "lay", "(J)V"⟩
def y12_isLetter : MethodName := ⟨xR12, "isLetter", "(I)Z"⟩
def y12_rank : MethodName := ⟨xR12, "rank", "(I)I"⟩
def y12_isDigit : MethodName := ⟨xR12, "isDigit", "(I)Z"⟩
def y12_isSignOf : MethodName := ⟨xR12, "isSignOf", "(I)Z"⟩
def y12_isSign : MethodName := ⟨xR12, "isSign", "(I)Z"⟩
def y12_wrong : MethodName := ⟨xR12, "wrong", "(I)V"⟩
def y12_isWord : MethodName := ⟨xR12, "isWord", "(I)Z"⟩
def y12_hasWord : MethodName := ⟨xR12, "hasWord", "(I)Z"⟩
def y12_takeWord : MethodName := ⟨xR12, "takeWord", "(I)V"⟩
def y12_takeNumber : MethodName := ⟨xR12, "takeNumber", "(II)I"⟩
def y12_wordHere : MethodName := ⟨xR12, "wordHere", "(II)I"⟩
def y12_isName : MethodName := ⟨xR12, "isName", "()Z"⟩
def y12_nameAt : MethodName := ⟨xR12, "nameAt", "(Z)I"⟩
def y12_within : MethodName := ⟨xR12, "within", "(III)Z"⟩
def y12_cutAll : MethodName := ⟨xR12, "cutAll", "()V"⟩
def y12_standsAsAlways : MethodName := ⟨xR12, "standsAsAlways", "(I)V"⟩
def y12_readLine : MethodName := ⟨xR12, "readLine", "()V"⟩
def y12_takeSign : MethodName := ⟨xR12, "takeSign", "(I)V"⟩
def y12_begins : MethodName := ⟨xR12, "begins", "()V"⟩
def y12_readGuest : MethodName := ⟨xR12, "readGuest", "()V"⟩
def y12_readName : MethodName := ⟨xR12, "readName", "(III)V"⟩
def y12_takeAfter : MethodName := ⟨xR12, "takeAfter", "(III)I"⟩
def y12_readOnce : MethodName := ⟨xR12, "readOnce", "()V"⟩
def y12_takeOne : MethodName := ⟨xR12, "takeOne", "(II)I"⟩
def y12_whole : MethodName := ⟨xR12, "whole", "(I)V"⟩
def y12_emit : MethodName := ⟨xR12, "emit", "(II)V"⟩
def y12_readEvening : MethodName := ⟨xR12, "readEvening", "(II)V"⟩
def y12_takeTold : MethodName := ⟨xR12, "takeTold", "(I)I"⟩
def y12_test : MethodName := ⟨xR12, "test", "(I)V"⟩
def y12_sums : MethodName := ⟨xR12, "sums", "(I)V"⟩
def y12_hasSign : MethodName := ⟨xR12, "hasSign", "(I)Z"⟩
def y12_products : MethodName := ⟨xR12, "products", "(I)V"⟩
def y12_takePart : MethodName := ⟨xR12, "takePart", "(I)V"⟩
def y12_both : MethodName := ⟨xR12, "both", "(III)I"⟩
def y12_guests : MethodName := ⟨xR12, "guests", "()I"⟩
def y12_guestOf : MethodName := ⟨xR12, "guestOf", "(II)I"⟩
def y12_starts : MethodName := ⟨xR12, "starts", "(I)V"⟩
def y12_copies : MethodName := ⟨xR12, "copies", "(III)V"⟩
def y12_belts : MethodName := ⟨xR12, "belts", "()I"⟩
def y12_men : MethodName := ⟨xR12, "men", "()I"⟩
def y12_bearsOf : MethodName := ⟨xR12, "bearsOf", "(I)I"⟩
def y12_weightOf : MethodName := ⟨xR12, "weightOf", "(I)I"⟩
def y12_isIn : MethodName := ⟨xR12, "isIn", "(II)Z"⟩
def y12_doesBear : MethodName := ⟨xR12, "doesBear", "(II)Z"⟩
def y12_doesCry : MethodName := ⟨xR12, "doesCry", "(II)Z"⟩
def y12_manOf : MethodName := ⟨xR12, "manOf", "(II)I"⟩
def y12_isFree : MethodName := ⟨xR12, "isFree", "(II)Z"⟩
def y12_gapTo : MethodName := ⟨xR12, "gapTo", "(III)I"⟩
def y12_couldCast : MethodName := ⟨xR12, "couldCast", "(III)Z"⟩
def y12_wall : MethodName := ⟨xR12, "wall", "(I)I"⟩
def y12_isUnder : MethodName := ⟨xR12, "isUnder", "(II)Z"⟩
def y12_who : MethodName := ⟨xR12, "who", "(II)I"⟩
def y12_breathes : MethodName := ⟨xR12, "breathes", "(II)V"⟩
def y12_drawsIn : MethodName := ⟨xR12, "drawsIn", "(II)V"⟩
def y12_bits : MethodName := ⟨xR12, "bits", "(I)I"⟩
def y12_worthAt : MethodName := ⟨xR12, "worthAt", "(I)I"⟩
def y12_isGuest : MethodName := ⟨xR12, "isGuest", "(I)Z"⟩
def y12_isBelt : MethodName := ⟨xR12, "isBelt", "(I)Z"⟩
def y12_isMan : MethodName := ⟨xR12, "isMan", "(I)Z"⟩
def y12_mayCast : MethodName := ⟨xR12, "mayCast", "(IIII)Z"⟩
def y12_keeps : MethodName := ⟨xR12, "keeps", "()V"⟩
def y12_casts : MethodName := ⟨xR12, "casts", "(IIII)V"⟩
def y12_mayStop : MethodName := ⟨xR12, "mayStop", "(II)Z"⟩
def y12_stops : MethodName := ⟨xR12, "stops", "(II)V"⟩
def y12_passes : MethodName := ⟨xR12, "passes", "(I)I"⟩
def y12_underNow : MethodName := ⟨xR12, "underNow", "()I"⟩
def y12_criers : MethodName := ⟨xR12, "criers", "(I)I"⟩
def y12_triesNow : MethodName := ⟨xR12, "triesNow", "()V"⟩
def y12_becomes : MethodName := ⟨xR12, "becomes", "(II)I"⟩
def y12_sinksIn : MethodName := ⟨xR12, "sinksIn", "(I)I"⟩
def y12_fitsOf : MethodName := ⟨xR12, "fitsOf", "(I)I"⟩
def y12_beltsFrom : MethodName := ⟨xR12, "beltsFrom", "(II)Z"⟩
def y12_castsFrom : MethodName := ⟨xR12, "castsFrom", "(II)V"⟩
def y12_doesHold : MethodName := ⟨xR12, "doesHold", "(II)Z"⟩
def y12_bearOf : MethodName := ⟨xR12, "bearOf", "(I)I"⟩
def y12_enoughFor : MethodName := ⟨xR12, "enoughFor", "(I)I"⟩
def y12_doesSave : MethodName := ⟨xR12, "doesSave", "(III)Z"⟩
def y12_manyAt : MethodName := ⟨xR12, "manyAt", "(I)I"⟩
def y12_denseNow : MethodName := ⟨xR12, "denseNow", "()I"⟩
def y12_depthsNow : MethodName := ⟨xR12, "depthsNow", "()V"⟩
def y12_holesNow : MethodName := ⟨xR12, "holesNow", "()I"⟩
def y12_getsBy : MethodName := ⟨xR12, "getsBy", "(IIIII)I"⟩
def y12_draw : MethodName := ⟨xR12, "draw", "(I)I"⟩
def y12_drawsDeed : MethodName := ⟨xR12, "drawsDeed", "()Z"⟩
def y11_feed : MethodName := ⟨xR11, "feed", "(JJJ)I"⟩
def y12_feed : MethodName := ⟨xR12, "feed", "(JJJ)I"⟩
def y11_room : MethodName := ⟨xR11, "room", "()I"⟩
def y12_room : MethodName := ⟨xR12, "room", "()I"⟩
def y11_evening : MethodName := ⟨xR11, "evening", "()I"⟩
def y12_evening : MethodName := ⟨xR12, "evening", "()I"⟩
def y11_guest : MethodName := ⟨xR11, "guest", "(II)I"⟩
def y12_guest : MethodName := ⟨xR12, "guest", "(II)I"⟩
def y11_belt : MethodName := ⟨xR11, "belt", "(II)I"⟩
def y12_belt : MethodName := ⟨xR12, "belt", "(II)I"⟩
def y11_man : MethodName := ⟨xR11, "man", "(II)I"⟩
def y12_man : MethodName := ⟨xR12, "man", "(II)I"⟩
def y11_cast : MethodName := ⟨xR11, "cast", "(III)Z"⟩
def y12_cast : MethodName := ⟨xR12, "cast", "(III)Z"⟩
def y11_ask : MethodName := ⟨xR11, "ask", "()I"⟩
def y12_ask : MethodName := ⟨xR12, "ask", "()I"⟩
def y11_stop : MethodName := ⟨xR11, "stop", "(I)I"⟩
def y12_stop : MethodName := ⟨xR12, "stop", "(I)I"⟩
def y11_minute : MethodName := ⟨xR11, "minute", "()I"⟩
def y12_minute : MethodName := ⟨xR12, "minute", "()I"⟩
def y11_undo : MethodName := ⟨xR11, "undo", "()Z"⟩
def y12_undo : MethodName := ⟨xR12, "undo", "()Z"⟩
def y11_judged : MethodName := ⟨xR11, "judged", "(I)I"⟩
def y12_judged : MethodName := ⟨xR12, "judged", "(I)I"⟩
def y11_under : MethodName := ⟨xR11, "under", "()I"⟩
def y12_under : MethodName := ⟨xR12, "under", "()I"⟩
def y11_cries : MethodName := ⟨xR11, "cries", "()I"⟩
def y12_cries : MethodName := ⟨xR12, "cries", "()I"⟩
def y11_later : MethodName := ⟨xR11, "later", "(I)I"⟩
def y12_later : MethodName := ⟨xR12, "later", "(I)I"⟩
def y11_over : MethodName := ⟨xR11, "over", "(I)I"⟩
def y12_over : MethodName := ⟨xR12, "over", "(I)I"⟩
def y11_sinks : MethodName := ⟨xR11, "sinks", "(I)I"⟩
def y12_sinks : MethodName := ⟨xR12, "sinks", "(I)I"⟩
def y11_first : MethodName := ⟨xR11, "first", "()I"⟩
def y12_first : MethodName := ⟨xR12, "first", "()I"⟩
def y11_home : MethodName := ⟨xR11, "home", "(I)I"⟩
def y12_home : MethodName := ⟨xR12, "home", "(I)I"⟩
def y11_quiet : MethodName := ⟨xR11, "quiet", "()I"⟩
def y12_quiet : MethodName := ⟨xR12, "quiet", "()I"⟩
def y11_when : MethodName := ⟨xR11, "when", "(I)I"⟩
def y12_when : MethodName := ⟨xR12, "when", "(I)I"⟩
def y11_lost : MethodName := ⟨xR11, "lost", "(I)I"⟩
def y12_lost : MethodName := ⟨xR12, "lost", "(I)I"⟩
def y11_fits : MethodName := ⟨xR11, "fits", "(I)I"⟩
def y12_fits : MethodName := ⟨xR12, "fits", "(I)I"⟩
def y11_could : MethodName := ⟨xR11, "could", "(I)I"⟩
def y12_could : MethodName := ⟨xR12, "could", "(I)I"⟩
def y11_best : MethodName := ⟨xR11, "best", "(I)I"⟩
def y12_best : MethodName := ⟨xR12, "best", "(I)I"⟩
def y11_with : MethodName := ⟨xR11, "with", "(I)I"⟩
def y12_with : MethodName := ⟨xR12, "with", "(I)I"⟩
def y11_need : MethodName := ⟨xR11, "need", "()I"⟩
def y12_need : MethodName := ⟨xR12, "need", "()I"⟩
def y11_latest : MethodName := ⟨xR11, "latest", "(I)I"⟩
def y12_latest : MethodName := ⟨xR12, "latest", "(I)I"⟩
def y11_enough : MethodName := ⟨xR11, "enough", "(I)I"⟩
def y12_enough : MethodName := ⟨xR12, "enough", "(I)I"⟩
def y11_near : MethodName := ⟨xR11, "near", "(I)I"⟩
def y12_near : MethodName := ⟨xR12, "near", "(I)I"⟩
def y11_gap : MethodName := ⟨xR11, "gap", "(II)I"⟩
def y12_gap : MethodName := ⟨xR12, "gap", "(II)I"⟩
def y11_row : MethodName := ⟨xR11, "row", "()I"⟩
def y12_row : MethodName := ⟨xR12, "row", "()I"⟩
def y11_dense : MethodName := ⟨xR11, "dense", "()I"⟩
def y12_dense : MethodName := ⟨xR12, "dense", "()I"⟩
def y11_tight : MethodName := ⟨xR11, "tight", "()I"⟩
def y12_tight : MethodName := ⟨xR12, "tight", "()I"⟩
def y11_spare : MethodName := ⟨xR11, "spare", "()I"⟩
def y12_spare : MethodName := ⟨xR12, "spare", "()I"⟩
def y11_save : MethodName := ⟨xR11, "save", "(III)Z"⟩
def y12_save : MethodName := ⟨xR12, "save", "(III)Z"⟩
def y11_worth : MethodName := ⟨xR11, "worth", "(I)I"⟩
def y12_worth : MethodName := ⟨xR12, "worth", "(I)I"⟩
def y11_see : MethodName := ⟨xR11, "see", "(II)Z"⟩
def y12_see : MethodName := ⟨xR12, "see", "(II)Z"⟩
def y11_holes : MethodName := ⟨xR11, "holes", "()I"⟩
def y12_holes : MethodName := ⟨xR12, "holes", "()I"⟩
def y11_look : MethodName := ⟨xR11, "look", "()I"⟩
def y12_look : MethodName := ⟨xR12, "look", "()I"⟩
def y11_chance : MethodName := ⟨xR11, "chance", "(III)I"⟩
def y12_chance : MethodName := ⟨xR12, "chance", "(III)I"⟩
def yL_rests : MethodName := ⟨"SilenceBallLaw", "rests", "(LSilenceBall;IIII[J)I"⟩
def y12_rests : MethodName := ⟨xR12, "rests", "(IIII)I"⟩
def y12_thrown : MethodName := ⟨xR12, "thrown", "()I"⟩
def y11_balls : MethodName := ⟨xR11, "balls", "(III)I"⟩
def y12_balls : MethodName := ⟨xR12, "balls", "(III)I"⟩
def y11_mark : MethodName := ⟨xR11, "mark", "(IZ)Z"⟩
def y12_mark : MethodName := ⟨xR12, "mark", "(IZ)Z"⟩
def y11_count : MethodName := ⟨xR11, "count", "(I)I"⟩
def y12_count : MethodName := ⟨xR12, "count", "(I)I"⟩
def y11_rests : MethodName := ⟨xR11, "rests", "(IIII)I"⟩
def fl0 : List (Nat × Nat × Nat) := [(18, 0, 2), (11, 0, 0), (22, 0, 1)]
set_option maxRecDepth 20000 in
theorem flk0 : ∀ q ∈ fl0, xfl xR0 q := List.forall_mem_cons.mpr ⟨⟨xR0, xT0, 3, rfl, by decide, xG_k xT_2 60 rfl rfl⟩, List.forall_mem_cons.mpr ⟨⟨xR0, xT0, 3, rfl, by decide, xG_k xT_2 58 rfl rfl⟩, List.forall_mem_cons.mpr ⟨⟨xR0, xT0, 3, rfl, by decide, xG_k xT_2 59 rfl rfl⟩, fun _ h => absurd h List.not_mem_nil⟩⟩⟩
def cl0 : List (Nat × Int32) := []
set_option maxRecDepth 20000 in
theorem clk0 : ∀ q ∈ cl0, Cond.constant xR0 q.1 q.2 ∈ xG := fun _ h => absurd h List.not_mem_nil
def ll0 : List (Nat × Int64) := []
set_option maxRecDepth 20000 in
theorem llk0 : ∀ q ∈ ll0, Cond.constantLong xR0 q.1 q.2 ∈ xG := fun _ h => absurd h List.not_mem_nil
def jl0 : List (Nat × Nat) := [(29, 2)]
set_option maxRecDepth 20000 in
theorem jlk0 : ∀ q ∈ jl0, xjd xR0 q := List.forall_mem_cons.mpr ⟨Or.inr (Or.inl (⟨rfl, xG_k xT_4 110 rfl rfl, xG_k xT_3 63 rfl rfl, xG_k xT_1 18 rfl rfl, xG_k xT_3 64 rfl rfl⟩)), fun _ h => absurd h List.not_mem_nil⟩
set_option maxRecDepth 20000 in
theorem ml0_25 : Cond.methodLink xR0 25 y8_copyFrom ∈ xG := xG_k xT_4 105 rfl rfl
def fl1 : List (Nat × Nat × Nat) := [(24, 1, 0), (11, 1, 1), (15, 1, 2), (18, 1, 3), (21, 1, 4), (39, 10, 4), (46, 10, 7), (56, 2, 13), (62, 2, 2), (69, 2, 11), (72, 2, 1), (75, 2, 5), (78, 2, 0), (88, 10, 6)]
set_option maxRecDepth 20000 in
theorem flk1 : ∀ q ∈ fl1, xfl xR1 q := List.forall_mem_cons.mpr ⟨⟨xR1, xT1, 5, rfl, by decide, xG_k xT_1 229 rfl rfl⟩, List.forall_mem_cons.mpr ⟨⟨xR1, xT1, 5, rfl, by decide, xG_k xT_1 231 rfl rfl⟩, List.forall_mem_cons.mpr ⟨⟨xR1, xT1, 5, rfl, by decide, xG_k xT_1 232 rfl rfl⟩, List.forall_mem_cons.mpr ⟨⟨xR1, xT1, 5, rfl, by decide, xG_k xT_1 233 rfl rfl⟩, List.forall_mem_cons.mpr ⟨⟨xR1, xT1, 5, rfl, by decide, xG_k xT_1 234 rfl rfl⟩, List.forall_mem_cons.mpr ⟨⟨xR10, xT10, 8, rfl, by decide, xG_k xT_1 46 rfl rfl⟩, List.forall_mem_cons.mpr ⟨⟨xR10, xT10, 8, rfl, by decide, xG_k xT_1 54 rfl rfl⟩, List.forall_mem_cons.mpr ⟨⟨xR2, xT2, 17, rfl, by decide, xG_k xT_1 151 rfl rfl⟩, List.forall_mem_cons.mpr ⟨⟨xR2, xT2, 17, rfl, by decide, xG_k xT_1 116 rfl rfl⟩, List.forall_mem_cons.mpr ⟨⟨xR2, xT2, 17, rfl, by decide, xG_k xT_1 145 rfl rfl⟩, List.forall_mem_cons.mpr ⟨⟨xR2, xT2, 17, rfl, by decide, xG_k xT_1 110 rfl rfl⟩, List.forall_mem_cons.mpr ⟨⟨xR2, xT2, 17, rfl, by decide, xG_k xT_1 126 rfl rfl⟩, List.forall_mem_cons.mpr ⟨⟨xR2, xT2, 17, rfl, by decide, xG_k xT_1 104 rfl rfl⟩, List.forall_mem_cons.mpr ⟨⟨xR10, xT10, 8, rfl, by decide, xG_k xT_1 50 rfl rfl⟩, fun _ h => absurd h List.not_mem_nil⟩⟩⟩⟩⟩⟩⟩⟩⟩⟩⟩⟩⟩⟩
def cl1 : List (Nat × Int32) := []
set_option maxRecDepth 20000 in
theorem clk1 : ∀ q ∈ cl1, Cond.constant xR1 q.1 q.2 ∈ xG := fun _ h => absurd h List.not_mem_nil
def ll1 : List (Nat × Int64) := []
set_option maxRecDepth 20000 in
theorem llk1 : ∀ q ∈ ll1, Cond.constantLong xR1 q.1 q.2 ∈ xG := fun _ h => absurd h List.not_mem_nil
def jl1 : List (Nat × Nat) := [(28, 4)]
set_option maxRecDepth 20000 in
theorem jlk1 : ∀ q ∈ jl1, xjd xR1 q := List.forall_mem_cons.mpr ⟨Or.inr (Or.inr (Or.inr (⟨rfl, xG_k xT_4 36 rfl rfl, xG_k xT_3 219 rfl rfl, xG_k xT_3 218 rfl rfl, xG_k xT_1 20 rfl rfl⟩))), fun _ h => absurd h List.not_mem_nil⟩
set_option maxRecDepth 20000 in
theorem ml1_34 : Cond.methodLink xR1 34 y10_begin ∈ xG := xG_k xT_4 18 rfl rfl
set_option maxRecDepth 20000 in
theorem ml1_42 : Cond.methodLink xR1 42 y1_readLine ∈ xG := xG_k xT_4 19 rfl rfl
set_option maxRecDepth 20000 in
theorem ml1_49 : Cond.methodLink xR1 49 y10_wrong ∈ xG := xG_k xT_4 23 rfl rfl
set_option maxRecDepth 20000 in
theorem ml1_53 : Cond.methodLink xR1 53 y10_advance ∈ xG := xG_k xT_4 24 rfl rfl
set_option maxRecDepth 20000 in
theorem ml1_65 : Cond.methodLink xR1 65 y1_readName ∈ xG := xG_k xT_4 25 rfl rfl
set_option maxRecDepth 20000 in
theorem ml1_81 : Cond.methodLink xR1 81 y10_take ∈ xG := xG_k xT_4 31 rfl rfl
set_option maxRecDepth 20000 in
theorem ml1_84 : Cond.methodLink xR1 84 y10_isName ∈ xG := xG_k xT_4 29 rfl rfl
set_option maxRecDepth 20000 in
theorem ml1_92 : Cond.methodLink xR1 92 y2_find ∈ xG := xG_k xT_4 30 rfl rfl
set_option maxRecDepth 20000 in
theorem ml1_96 : Cond.methodLink xR1 96 y8_begin ∈ xG := xG_k xT_4 222 rfl rfl
set_option maxRecDepth 20000 in
theorem ml1_99 : Cond.methodLink xR1 99 y1_play ∈ xG := xG_k xT_4 223 rfl rfl
set_option maxRecDepth 20000 in
theorem ml1_103 : Cond.methodLink xR1 103 y8_whoIs ∈ xG := xG_k xT_4 234 rfl rfl
set_option maxRecDepth 20000 in
theorem ml1_107 : Cond.methodLink xR1 107 yJ_bitCount ∈ xG := xG_k xT_4 235 rfl rfl
set_option maxRecDepth 20000 in
theorem ml1_112 : Cond.methodLink xR1 112 y8_pass ∈ xG := xG_k xT_4 227 rfl rfl
set_option maxRecDepth 20000 in
theorem ml1_116 : Cond.methodLink xR1 116 y8_canAsk ∈ xG := xG_k xT_4 228 rfl rfl
set_option maxRecDepth 20000 in
theorem ml1_119 : Cond.methodLink xR1 119 y8_openGap ∈ xG := xG_k xT_4 229 rfl rfl
set_option maxRecDepth 20000 in
theorem ml1_122 : Cond.methodLink xR1 122 y8_canStop ∈ xG := xG_k xT_4 230 rfl rfl
set_option maxRecDepth 20000 in
theorem ml1_125 : Cond.methodLink xR1 125 y8_closeGap ∈ xG := xG_k xT_4 231 rfl rfl
set_option maxRecDepth 20000 in
theorem ml1_129 : Cond.methodLink xR1 129 y8_canCast ∈ xG := xG_k xT_4 232 rfl rfl
set_option maxRecDepth 20000 in
theorem ml1_133 : Cond.methodLink xR1 133 y8_giveBelt ∈ xG := xG_k xT_4 233 rfl rfl
def fl2 : List (Nat × Nat × Nat) := [(53, 2, 0), (57, 2, 1), (60, 2, 2), (63, 2, 3), (66, 2, 4), (49, 2, 16), (9, 2, 5), (15, 2, 6), (19, 2, 7), (22, 2, 8), (25, 2, 9), (28, 2, 10), (31, 2, 11), (34, 2, 12), (37, 2, 13), (40, 2, 14), (43, 2, 15)]
set_option maxRecDepth 20000 in
theorem flk2 : ∀ q ∈ fl2, xfl xR2 q := List.forall_mem_cons.mpr ⟨⟨xR2, xT2, 17, rfl, by decide, xG_k xT_1 101 rfl rfl⟩, List.forall_mem_cons.mpr ⟨⟨xR2, xT2, 17, rfl, by decide, xG_k xT_1 107 rfl rfl⟩, List.forall_mem_cons.mpr ⟨⟨xR2, xT2, 17, rfl, by decide, xG_k xT_1 113 rfl rfl⟩, List.forall_mem_cons.mpr ⟨⟨xR2, xT2, 17, rfl, by decide, xG_k xT_1 118 rfl rfl⟩, List.forall_mem_cons.mpr ⟨⟨xR2, xT2, 17, rfl, by decide, xG_k xT_1 121 rfl rfl⟩, List.forall_mem_cons.mpr ⟨⟨xR2, xT2, 17, rfl, by decide, xG_k xT_1 160 rfl rfl⟩, List.forall_mem_cons.mpr ⟨⟨xR2, xT2, 17, rfl, by decide, xG_k xT_1 124 rfl rfl⟩, List.forall_mem_cons.mpr ⟨⟨xR2, xT2, 17, rfl, by decide, xG_k xT_1 127 rfl rfl⟩, List.forall_mem_cons.mpr ⟨⟨xR2, xT2, 17, rfl, by decide, xG_k xT_1 130 rfl rfl⟩, List.forall_mem_cons.mpr ⟨⟨xR2, xT2, 17, rfl, by decide, xG_k xT_1 133 rfl rfl⟩, List.forall_mem_cons.mpr ⟨⟨xR2, xT2, 17, rfl, by decide, xG_k xT_1 137 rfl rfl⟩, List.forall_mem_cons.mpr ⟨⟨xR2, xT2, 17, rfl, by decide, xG_k xT_1 140 rfl rfl⟩, List.forall_mem_cons.mpr ⟨⟨xR2, xT2, 17, rfl, by decide, xG_k xT_1 143 rfl rfl⟩, List.forall_mem_cons.mpr ⟨⟨xR2, xT2, 17, rfl, by decide, xG_k xT_1 146 rfl rfl⟩, List.forall_mem_cons.mpr ⟨⟨xR2, xT2, 17, rfl, by decide, xG_k xT_1 149 rfl rfl⟩, List.forall_mem_cons.mpr ⟨⟨xR2, xT2, 17, rfl, by decide, xG_k xT_1 152 rfl rfl⟩, List.forall_mem_cons.mpr ⟨⟨xR2, xT2, 17, rfl, by decide, xG_k xT_1 156 rfl rfl⟩, fun _ h => absurd h List.not_mem_nil⟩⟩⟩⟩⟩⟩⟩⟩⟩⟩⟩⟩⟩⟩⟩⟩⟩
def cl2 : List (Nat × Int32) := []
set_option maxRecDepth 20000 in
theorem clk2 : ∀ q ∈ cl2, Cond.constant xR2 q.1 q.2 ∈ xG := fun _ h => absurd h List.not_mem_nil
def ll2 : List (Nat × Int64) := []
set_option maxRecDepth 20000 in
theorem llk2 : ∀ q ∈ ll2, Cond.constantLong xR2 q.1 q.2 ∈ xG := fun _ h => absurd h List.not_mem_nil
def jl2 : List (Nat × Nat) := [(72, 4)]
set_option maxRecDepth 20000 in
theorem jlk2 : ∀ q ∈ jl2, xjd xR2 q := List.forall_mem_cons.mpr ⟨Or.inr (Or.inr (Or.inr (⟨rfl, xG_k xT_3 217 rfl rfl, xG_k xT_3 219 rfl rfl, xG_k xT_3 218 rfl rfl, xG_k xT_1 20 rfl rfl⟩))), fun _ h => absurd h List.not_mem_nil⟩
set_option maxRecDepth 20000 in
theorem ml2_69 : Cond.methodLink xR2 69 y4_clear ∈ xG := xG_k xT_2 205 rfl rfl
set_option maxRecDepth 20000 in
theorem ml2_78 : Cond.methodLink xR2 78 y4_copyFrom ∈ xG := xG_k xT_3 220 rfl rfl
set_option maxRecDepth 20000 in
theorem ml2_82 : Cond.methodLink xR2 82 y2_find ∈ xG := xG_k xT_3 129 rfl rfl
set_option maxRecDepth 20000 in
theorem ml2_86 : Cond.methodLink xR2 86 y2_isBorne ∈ xG := xG_k xT_5 135 rfl rfl
set_option maxRecDepth 20000 in
theorem ml2_90 : Cond.methodLink xR2 90 yJ_bitCount ∈ xG := xG_k xT_5 114 rfl rfl
set_option maxRecDepth 20000 in
theorem ml2_96 : Cond.methodLink xR2 96 y2_beltsFrom ∈ xG := xG_k xT_5 115 rfl rfl
set_option maxRecDepth 20000 in
theorem ml2_100 : Cond.methodLink xR2 100 y2_guestsFrom ∈ xG := xG_k xT_5 119 rfl rfl
def fl3 : List (Nat × Nat × Nat) := [(22, 8, 6), (13, 3, 0), (26, 8, 7)]
set_option maxRecDepth 20000 in
theorem flk3 : ∀ q ∈ fl3, xfl xR3 q := List.forall_mem_cons.mpr ⟨⟨xR8, xT8, 9, rfl, by decide, xG_k xT_2 22 rfl rfl⟩, List.forall_mem_cons.mpr ⟨⟨xR3, xT3, 1, rfl, by decide, xG_k xT_2 113 rfl rfl⟩, List.forall_mem_cons.mpr ⟨⟨xR8, xT8, 9, rfl, by decide, xG_k xT_2 25 rfl rfl⟩, fun _ h => absurd h List.not_mem_nil⟩⟩⟩
def cl3 : List (Nat × Int32) := []
set_option maxRecDepth 20000 in
theorem clk3 : ∀ q ∈ cl3, Cond.constant xR3 q.1 q.2 ∈ xG := fun _ h => absurd h List.not_mem_nil
def ll3 : List (Nat × Int64) := []
set_option maxRecDepth 20000 in
theorem llk3 : ∀ q ∈ ll3, Cond.constantLong xR3 q.1 q.2 ∈ xG := fun _ h => absurd h List.not_mem_nil
def jl3 : List (Nat × Nat) := [(58, 1)]
set_option maxRecDepth 20000 in
theorem jlk3 : ∀ q ∈ jl3, xjd xR3 q := List.forall_mem_cons.mpr ⟨Or.inl (⟨rfl, xG_k xT_5 233 rfl rfl, xG_k xT_3 60 rfl rfl, xG_k xT_1 18 rfl rfl, xG_k xT_3 61 rfl rfl⟩), fun _ h => absurd h List.not_mem_nil⟩
set_option maxRecDepth 20000 in
theorem ml3_17 : Cond.methodLink xR3 17 y8_begin ∈ xG := xG_k xT_5 200 rfl rfl
set_option maxRecDepth 20000 in
theorem ml3_29 : Cond.methodLink xR3 29 y8_pass ∈ xG := xG_k xT_5 201 rfl rfl
set_option maxRecDepth 20000 in
theorem ml3_33 : Cond.methodLink xR3 33 y9_allows ∈ xG := xG_k xT_5 206 rfl rfl
set_option maxRecDepth 20000 in
theorem ml3_37 : Cond.methodLink xR3 37 y3_possible ∈ xG := xG_k xT_5 222 rfl rfl
set_option maxRecDepth 20000 in
theorem ml3_41 : Cond.methodLink xR3 41 yJ_bitCount ∈ xG := xG_k xT_5 223 rfl rfl
set_option maxRecDepth 20000 in
theorem ml3_47 : Cond.methodLink xR3 47 y3_mostAlike ∈ xG := xG_k xT_5 224 rfl rfl
set_option maxRecDepth 20000 in
theorem ml3_51 : Cond.methodLink xR3 51 y3_depthBehind ∈ xG := xG_k xT_5 228 rfl rfl
set_option maxRecDepth 20000 in
theorem ml3_54 : Cond.methodLink xR3 54 y3_manyAsDeep ∈ xG := xG_k xT_5 229 rfl rfl
def fl4 : List (Nat × Nat × Nat) := [(18, 4, 1), (9, 4, 0), (32, 4, 3), (15, 4, 2)]
set_option maxRecDepth 20000 in
theorem flk4 : ∀ q ∈ fl4, xfl xR4 q := List.forall_mem_cons.mpr ⟨⟨xR4, xT4, 4, rfl, by decide, xG_k xT_1 87 rfl rfl⟩, List.forall_mem_cons.mpr ⟨⟨xR4, xT4, 4, rfl, by decide, xG_k xT_1 86 rfl rfl⟩, List.forall_mem_cons.mpr ⟨⟨xR4, xT4, 4, rfl, by decide, xG_k xT_1 89 rfl rfl⟩, List.forall_mem_cons.mpr ⟨⟨xR4, xT4, 4, rfl, by decide, xG_k xT_1 88 rfl rfl⟩, fun _ h => absurd h List.not_mem_nil⟩⟩⟩⟩
def cl4 : List (Nat × Int32) := []
set_option maxRecDepth 20000 in
theorem clk4 : ∀ q ∈ cl4, Cond.constant xR4 q.1 q.2 ∈ xG := fun _ h => absurd h List.not_mem_nil
def ll4 : List (Nat × Int64) := []
set_option maxRecDepth 20000 in
theorem llk4 : ∀ q ∈ ll4, Cond.constantLong xR4 q.1 q.2 ∈ xG := fun _ h => absurd h List.not_mem_nil
def jl4 : List (Nat × Nat) := [(22, 4)]
set_option maxRecDepth 20000 in
theorem jlk4 : ∀ q ∈ jl4, xjd xR4 q := List.forall_mem_cons.mpr ⟨Or.inr (Or.inr (Or.inr (⟨rfl, xG_k xT_3 224 rfl rfl, xG_k xT_3 219 rfl rfl, xG_k xT_3 218 rfl rfl, xG_k xT_1 20 rfl rfl⟩))), fun _ h => absurd h List.not_mem_nil⟩
set_option maxRecDepth 20000 in
theorem ml4_28 : Cond.methodLink xR4 28 y4_add ∈ xG := xG_k xT_3 201 rfl rfl
set_option maxRecDepth 20000 in
theorem ml4_35 : Cond.methodLink xR4 35 y4_push ∈ xG := xG_k xT_4 193 rfl rfl
set_option maxRecDepth 20000 in
theorem ml4_38 : Cond.methodLink xR4 38 y4_pop ∈ xG := xG_k xT_4 197 rfl rfl
set_option maxRecDepth 20000 in
theorem ml4_42 : Cond.methodLink xR4 42 y4_joined ∈ xG := xG_k xT_4 201 rfl rfl
def fl5 : List (Nat × Nat × Nat) := [(25, 5, 0), (21, 5, 1), (10, 5, 2)]
set_option maxRecDepth 20000 in
theorem flk5 : ∀ q ∈ fl5, xfl xR5 q := List.forall_mem_cons.mpr ⟨⟨xR5, xT5, 3, rfl, by decide, xG_k xT_2 95 rfl rfl⟩, List.forall_mem_cons.mpr ⟨⟨xR5, xT5, 3, rfl, by decide, xG_k xT_2 96 rfl rfl⟩, List.forall_mem_cons.mpr ⟨⟨xR5, xT5, 3, rfl, by decide, xG_k xT_2 97 rfl rfl⟩, fun _ h => absurd h List.not_mem_nil⟩⟩⟩
def cl5 : List (Nat × Int32) := []
set_option maxRecDepth 20000 in
theorem clk5 : ∀ q ∈ cl5, Cond.constant xR5 q.1 q.2 ∈ xG := fun _ h => absurd h List.not_mem_nil
def ll5 : List (Nat × Int64) := []
set_option maxRecDepth 20000 in
theorem llk5 : ∀ q ∈ ll5, Cond.constantLong xR5 q.1 q.2 ∈ xG := fun _ h => absurd h List.not_mem_nil
def jl5 : List (Nat × Nat) := []
set_option maxRecDepth 20000 in
theorem jlk5 : ∀ q ∈ jl5, xjd xR5 q := fun _ h => absurd h List.not_mem_nil
set_option maxRecDepth 20000 in
theorem ml5_29 : Cond.methodLink xR5 29 y8_copyFrom ∈ xG := xG_k xT_6 35 rfl rfl
set_option maxRecDepth 20000 in
theorem ml5_33 : Cond.methodLink xR5 33 y9_copyFrom ∈ xG := xG_k xT_6 36 rfl rfl
def fl6 : List (Nat × Nat × Nat) := [(32, 6, 2), (9, 6, 3), (15, 6, 4), (24, 6, 0), (40, 2, 2), (28, 6, 1), (65, 2, 0), (18, 6, 5), (21, 6, 6), (75, 2, 1)]
set_option maxRecDepth 20000 in
theorem flk6 : ∀ q ∈ fl6, xfl xR6 q := List.forall_mem_cons.mpr ⟨⟨xR6, xT6, 7, rfl, by decide, xG_k xT_2 125 rfl rfl⟩, List.forall_mem_cons.mpr ⟨⟨xR6, xT6, 7, rfl, by decide, xG_k xT_2 127 rfl rfl⟩, List.forall_mem_cons.mpr ⟨⟨xR6, xT6, 7, rfl, by decide, xG_k xT_2 129 rfl rfl⟩, List.forall_mem_cons.mpr ⟨⟨xR6, xT6, 7, rfl, by decide, xG_k xT_2 123 rfl rfl⟩, List.forall_mem_cons.mpr ⟨⟨xR2, xT2, 17, rfl, by decide, xG_k xT_1 115 rfl rfl⟩, List.forall_mem_cons.mpr ⟨⟨xR6, xT6, 7, rfl, by decide, xG_k xT_2 124 rfl rfl⟩, List.forall_mem_cons.mpr ⟨⟨xR2, xT2, 17, rfl, by decide, xG_k xT_1 103 rfl rfl⟩, List.forall_mem_cons.mpr ⟨⟨xR6, xT6, 7, rfl, by decide, xG_k xT_2 131 rfl rfl⟩, List.forall_mem_cons.mpr ⟨⟨xR6, xT6, 7, rfl, by decide, xG_k xT_2 132 rfl rfl⟩, List.forall_mem_cons.mpr ⟨⟨xR2, xT2, 17, rfl, by decide, xG_k xT_1 109 rfl rfl⟩, fun _ h => absurd h List.not_mem_nil⟩⟩⟩⟩⟩⟩⟩⟩⟩⟩
def cl6 : List (Nat × Int32) := []
set_option maxRecDepth 20000 in
theorem clk6 : ∀ q ∈ cl6, Cond.constant xR6 q.1 q.2 ∈ xG := fun _ h => absurd h List.not_mem_nil
def ll6 : List (Nat × Int64) := []
set_option maxRecDepth 20000 in
theorem llk6 : ∀ q ∈ ll6, Cond.constantLong xR6 q.1 q.2 ∈ xG := fun _ h => absurd h List.not_mem_nil
def jl6 : List (Nat × Nat) := []
set_option maxRecDepth 20000 in
theorem jlk6 : ∀ q ∈ jl6, xjd xR6 q := fun _ h => absurd h List.not_mem_nil
set_option maxRecDepth 20000 in
theorem ml6_36 : Cond.methodLink xR6 36 y6_chooseGuests ∈ xG := xG_k xT_5 85 rfl rfl
set_option maxRecDepth 20000 in
theorem ml6_45 : Cond.methodLink xR6 45 yJ_bitCount ∈ xG := xG_k xT_5 89 rfl rfl
set_option maxRecDepth 20000 in
theorem ml6_51 : Cond.methodLink xR6 51 y8_wall ∈ xG := xG_k xT_5 90 rfl rfl
set_option maxRecDepth 20000 in
theorem ml6_57 : Cond.methodLink xR6 57 y6_chooseBelts ∈ xG := xG_k xT_5 91 rfl rfl
set_option maxRecDepth 20000 in
theorem ml6_61 : Cond.methodLink xR6 61 y6_keepTried ∈ xG := xG_k xT_5 96 rfl rfl
set_option maxRecDepth 20000 in
theorem ml6_68 : Cond.methodLink xR6 68 y8_isCrying ∈ xG := xG_k xT_5 100 rfl rfl
set_option maxRecDepth 20000 in
theorem ml6_72 : Cond.methodLink xR6 72 y8_canReach ∈ xG := xG_k xT_5 101 rfl rfl
set_option maxRecDepth 20000 in
theorem ml6_78 : Cond.methodLink xR6 78 y2_isBorne ∈ xG := xG_k xT_5 95 rfl rfl
def fl7 : List (Nat × Nat × Nat) := [(12, 7, 0), (25, 7, 2), (29, 7, 3), (32, 7, 4), (18, 7, 1), (40, 10, 4), (44, 2, 0), (51, 2, 1), (57, 2, 2), (76, 10, 7), (82, 2, 5), (90, 2, 6), (97, 2, 7), (104, 2, 8), (107, 2, 9), (110, 2, 10), (119, 2, 11), (122, 2, 12), (125, 2, 13), (128, 2, 14), (131, 2, 15), (138, 10, 5), (141, 2, 3), (144, 2, 4), (153, 10, 6), (179, 2, 16)]
set_option maxRecDepth 20000 in
theorem flk7 : ∀ q ∈ fl7, xfl xR7 q := List.forall_mem_cons.mpr ⟨⟨xR7, xT7, 5, rfl, by decide, xG_k xT_1 206 rfl rfl⟩, List.forall_mem_cons.mpr ⟨⟨xR7, xT7, 5, rfl, by decide, xG_k xT_1 209 rfl rfl⟩, List.forall_mem_cons.mpr ⟨⟨xR7, xT7, 5, rfl, by decide, xG_k xT_1 210 rfl rfl⟩, List.forall_mem_cons.mpr ⟨⟨xR7, xT7, 5, rfl, by decide, xG_k xT_1 211 rfl rfl⟩, List.forall_mem_cons.mpr ⟨⟨xR7, xT7, 5, rfl, by decide, xG_k xT_1 208 rfl rfl⟩, List.forall_mem_cons.mpr ⟨⟨xR10, xT10, 8, rfl, by decide, xG_k xT_1 45 rfl rfl⟩, List.forall_mem_cons.mpr ⟨⟨xR2, xT2, 17, rfl, by decide, xG_k xT_1 102 rfl rfl⟩, List.forall_mem_cons.mpr ⟨⟨xR2, xT2, 17, rfl, by decide, xG_k xT_1 108 rfl rfl⟩, List.forall_mem_cons.mpr ⟨⟨xR2, xT2, 17, rfl, by decide, xG_k xT_1 114 rfl rfl⟩, List.forall_mem_cons.mpr ⟨⟨xR10, xT10, 8, rfl, by decide, xG_k xT_1 53 rfl rfl⟩, List.forall_mem_cons.mpr ⟨⟨xR2, xT2, 17, rfl, by decide, xG_k xT_1 125 rfl rfl⟩, List.forall_mem_cons.mpr ⟨⟨xR2, xT2, 17, rfl, by decide, xG_k xT_1 128 rfl rfl⟩, List.forall_mem_cons.mpr ⟨⟨xR2, xT2, 17, rfl, by decide, xG_k xT_1 132 rfl rfl⟩, List.forall_mem_cons.mpr ⟨⟨xR2, xT2, 17, rfl, by decide, xG_k xT_1 134 rfl rfl⟩, List.forall_mem_cons.mpr ⟨⟨xR2, xT2, 17, rfl, by decide, xG_k xT_1 139 rfl rfl⟩, List.forall_mem_cons.mpr ⟨⟨xR2, xT2, 17, rfl, by decide, xG_k xT_1 141 rfl rfl⟩, List.forall_mem_cons.mpr ⟨⟨xR2, xT2, 17, rfl, by decide, xG_k xT_1 144 rfl rfl⟩, List.forall_mem_cons.mpr ⟨⟨xR2, xT2, 17, rfl, by decide, xG_k xT_1 147 rfl rfl⟩, List.forall_mem_cons.mpr ⟨⟨xR2, xT2, 17, rfl, by decide, xG_k xT_1 150 rfl rfl⟩, List.forall_mem_cons.mpr ⟨⟨xR2, xT2, 17, rfl, by decide, xG_k xT_1 153 rfl rfl⟩, List.forall_mem_cons.mpr ⟨⟨xR2, xT2, 17, rfl, by decide, xG_k xT_1 157 rfl rfl⟩, List.forall_mem_cons.mpr ⟨⟨xR10, xT10, 8, rfl, by decide, xG_k xT_1 48 rfl rfl⟩, List.forall_mem_cons.mpr ⟨⟨xR2, xT2, 17, rfl, by decide, xG_k xT_1 120 rfl rfl⟩, List.forall_mem_cons.mpr ⟨⟨xR2, xT2, 17, rfl, by decide, xG_k xT_1 123 rfl rfl⟩, List.forall_mem_cons.mpr ⟨⟨xR10, xT10, 8, rfl, by decide, xG_k xT_1 52 rfl rfl⟩, List.forall_mem_cons.mpr ⟨⟨xR2, xT2, 17, rfl, by decide, xG_k xT_1 161 rfl rfl⟩, fun _ h => absurd h List.not_mem_nil⟩⟩⟩⟩⟩⟩⟩⟩⟩⟩⟩⟩⟩⟩⟩⟩⟩⟩⟩⟩⟩⟩⟩⟩⟩⟩
def cl7 : List (Nat × Int32) := []
set_option maxRecDepth 20000 in
theorem clk7 : ∀ q ∈ cl7, Cond.constant xR7 q.1 q.2 ∈ xG := fun _ h => absurd h List.not_mem_nil
def ll7 : List (Nat × Int64) := []
set_option maxRecDepth 20000 in
theorem llk7 : ∀ q ∈ ll7, Cond.constantLong xR7 q.1 q.2 ∈ xG := fun _ h => absurd h List.not_mem_nil
def jl7 : List (Nat × Nat) := []
set_option maxRecDepth 20000 in
theorem jlk7 : ∀ q ∈ jl7, xjd xR7 q := fun _ h => absurd h List.not_mem_nil
set_option maxRecDepth 20000 in
theorem ml7_22 : Cond.methodLink xR7 22 y2_clear ∈ xG := xG_k xT_2 201 rfl rfl
set_option maxRecDepth 20000 in
theorem ml7_35 : Cond.methodLink xR7 35 y10_begin ∈ xG := xG_k xT_2 209 rfl rfl
set_option maxRecDepth 20000 in
theorem ml7_47 : Cond.methodLink xR7 47 y7_readGuest ∈ xG := xG_k xT_3 103 rfl rfl
set_option maxRecDepth 20000 in
theorem ml7_54 : Cond.methodLink xR7 54 y7_readBelt ∈ xG := xG_k xT_3 152 rfl rfl
set_option maxRecDepth 20000 in
theorem ml7_60 : Cond.methodLink xR7 60 y7_readMan ∈ xG := xG_k xT_3 156 rfl rfl
set_option maxRecDepth 20000 in
theorem ml7_63 : Cond.methodLink xR7 63 y7_readGaps ∈ xG := xG_k xT_3 160 rfl rfl
set_option maxRecDepth 20000 in
theorem ml7_67 : Cond.methodLink xR7 67 y7_readWater ∈ xG := xG_k xT_3 164 rfl rfl
set_option maxRecDepth 20000 in
theorem ml7_70 : Cond.methodLink xR7 70 y7_readLaw ∈ xG := xG_k xT_3 168 rfl rfl
set_option maxRecDepth 20000 in
theorem ml7_73 : Cond.methodLink xR7 73 y10_wrong ∈ xG := xG_k xT_3 107 rfl rfl
set_option maxRecDepth 20000 in
theorem ml7_79 : Cond.methodLink xR7 79 y10_advance ∈ xG := xG_k xT_3 111 rfl rfl
set_option maxRecDepth 20000 in
theorem ml7_86 : Cond.methodLink xR7 86 y7_readName ∈ xG := xG_k xT_3 112 rfl rfl
set_option maxRecDepth 20000 in
theorem ml7_93 : Cond.methodLink xR7 93 y7_readKind ∈ xG := xG_k xT_3 132 rfl rfl
set_option maxRecDepth 20000 in
theorem ml7_100 : Cond.methodLink xR7 100 y7_readMeasure ∈ xG := xG_k xT_3 136 rfl rfl
set_option maxRecDepth 20000 in
theorem ml7_113 : Cond.methodLink xR7 113 y10_take ∈ xG := xG_k xT_3 144 rfl rfl
set_option maxRecDepth 20000 in
theorem ml7_116 : Cond.methodLink xR7 116 y2_addGuest ∈ xG := xG_k xT_3 148 rfl rfl
set_option maxRecDepth 20000 in
theorem ml7_134 : Cond.methodLink xR7 134 y10_isNumber ∈ xG := xG_k xT_3 140 rfl rfl
set_option maxRecDepth 20000 in
theorem ml7_147 : Cond.methodLink xR7 147 y7_readE ∈ xG := xG_k xT_3 172 rfl rfl
set_option maxRecDepth 20000 in
theorem ml7_150 : Cond.methodLink xR7 150 y10_isName ∈ xG := xG_k xT_3 116 rfl rfl
set_option maxRecDepth 20000 in
theorem ml7_157 : Cond.methodLink xR7 157 y2_isTold ∈ xG := xG_k xT_3 125 rfl rfl
set_option maxRecDepth 20000 in
theorem ml7_161 : Cond.methodLink xR7 161 y7_readTest ∈ xG := xG_k xT_3 176 rfl rfl
set_option maxRecDepth 20000 in
theorem ml7_164 : Cond.methodLink xR7 164 y7_write ∈ xG := xG_k xT_3 193 rfl rfl
set_option maxRecDepth 20000 in
theorem ml7_167 : Cond.methodLink xR7 167 y7_readSum ∈ xG := xG_k xT_3 180 rfl rfl
set_option maxRecDepth 20000 in
theorem ml7_170 : Cond.methodLink xR7 170 y7_readProduct ∈ xG := xG_k xT_3 184 rfl rfl
set_option maxRecDepth 20000 in
theorem ml7_173 : Cond.methodLink xR7 173 y7_readPart ∈ xG := xG_k xT_3 188 rfl rfl
set_option maxRecDepth 20000 in
theorem ml7_176 : Cond.methodLink xR7 176 y10_isFact ∈ xG := xG_k xT_3 192 rfl rfl
set_option maxRecDepth 20000 in
theorem ml7_183 : Cond.methodLink xR7 183 y4_addNumber ∈ xG := xG_k xT_3 205 rfl rfl
set_option maxRecDepth 20000 in
theorem ml7_189 : Cond.methodLink xR7 189 y4_addKind ∈ xG := xG_k xT_3 197 rfl rfl
def fl8 : List (Nat × Nat × Nat) := [(9, 8, 1), (24, 8, 0), (28, 2, 7), (15, 8, 2), (31, 2, 9), (18, 8, 3), (21, 8, 4), (32, 8, 5), (36, 2, 3), (39, 8, 6), (40, 2, 4), (43, 8, 7), (46, 8, 8), (59, 2, 0), (69, 2, 1), (78, 2, 8), (97, 2, 14), (105, 2, 15), (142, 2, 16)]
set_option maxRecDepth 20000 in
theorem flk8 : ∀ q ∈ fl8, xfl xR8 q := List.forall_mem_cons.mpr ⟨⟨xR8, xT8, 9, rfl, by decide, xG_k xT_2 13 rfl rfl⟩, List.forall_mem_cons.mpr ⟨⟨xR8, xT8, 9, rfl, by decide, xG_k xT_2 12 rfl rfl⟩, List.forall_mem_cons.mpr ⟨⟨xR2, xT2, 17, rfl, by decide, xG_k xT_1 131 rfl rfl⟩, List.forall_mem_cons.mpr ⟨⟨xR8, xT8, 9, rfl, by decide, xG_k xT_2 15 rfl rfl⟩, List.forall_mem_cons.mpr ⟨⟨xR2, xT2, 17, rfl, by decide, xG_k xT_1 138 rfl rfl⟩, List.forall_mem_cons.mpr ⟨⟨xR8, xT8, 9, rfl, by decide, xG_k xT_2 17 rfl rfl⟩, List.forall_mem_cons.mpr ⟨⟨xR8, xT8, 9, rfl, by decide, xG_k xT_2 19 rfl rfl⟩, List.forall_mem_cons.mpr ⟨⟨xR8, xT8, 9, rfl, by decide, xG_k xT_2 21 rfl rfl⟩, List.forall_mem_cons.mpr ⟨⟨xR2, xT2, 17, rfl, by decide, xG_k xT_1 119 rfl rfl⟩, List.forall_mem_cons.mpr ⟨⟨xR8, xT8, 9, rfl, by decide, xG_k xT_2 23 rfl rfl⟩, List.forall_mem_cons.mpr ⟨⟨xR2, xT2, 17, rfl, by decide, xG_k xT_1 122 rfl rfl⟩, List.forall_mem_cons.mpr ⟨⟨xR8, xT8, 9, rfl, by decide, xG_k xT_2 26 rfl rfl⟩, List.forall_mem_cons.mpr ⟨⟨xR8, xT8, 9, rfl, by decide, xG_k xT_2 28 rfl rfl⟩, List.forall_mem_cons.mpr ⟨⟨xR2, xT2, 17, rfl, by decide, xG_k xT_1 105 rfl rfl⟩, List.forall_mem_cons.mpr ⟨⟨xR2, xT2, 17, rfl, by decide, xG_k xT_1 111 rfl rfl⟩, List.forall_mem_cons.mpr ⟨⟨xR2, xT2, 17, rfl, by decide, xG_k xT_1 136 rfl rfl⟩, List.forall_mem_cons.mpr ⟨⟨xR2, xT2, 17, rfl, by decide, xG_k xT_1 155 rfl rfl⟩, List.forall_mem_cons.mpr ⟨⟨xR2, xT2, 17, rfl, by decide, xG_k xT_1 159 rfl rfl⟩, List.forall_mem_cons.mpr ⟨⟨xR2, xT2, 17, rfl, by decide, xG_k xT_1 162 rfl rfl⟩, fun _ h => absurd h List.not_mem_nil⟩⟩⟩⟩⟩⟩⟩⟩⟩⟩⟩⟩⟩⟩⟩⟩⟩⟩⟩
def cl8 : List (Nat × Int32) := []
set_option maxRecDepth 20000 in
theorem clk8 : ∀ q ∈ cl8, Cond.constant xR8 q.1 q.2 ∈ xG := fun _ h => absurd h List.not_mem_nil
def ll8 : List (Nat × Int64) := []
set_option maxRecDepth 20000 in
theorem llk8 : ∀ q ∈ ll8, Cond.constantLong xR8 q.1 q.2 ∈ xG := fun _ h => absurd h List.not_mem_nil
def jl8 : List (Nat × Nat) := [(49, 4), (100, 3), (152, 2), (156, 1)]
set_option maxRecDepth 20000 in
theorem jlk8 : ∀ q ∈ jl8, xjd xR8 q := List.forall_mem_cons.mpr ⟨Or.inr (Or.inr (Or.inr (⟨rfl, xG_k xT_4 109 rfl rfl, xG_k xT_3 219 rfl rfl, xG_k xT_3 218 rfl rfl, xG_k xT_1 20 rfl rfl⟩))), List.forall_mem_cons.mpr ⟨Or.inr (Or.inr (Or.inl (⟨rfl, xG_k xT_4 98 rfl rfl, xG_k xT_4 99 rfl rfl, xG_k xT_1 18 rfl rfl, xG_k xT_4 100 rfl rfl⟩))), List.forall_mem_cons.mpr ⟨Or.inr (Or.inl (⟨rfl, xG_k xT_4 204 rfl rfl, xG_k xT_3 63 rfl rfl, xG_k xT_1 18 rfl rfl, xG_k xT_3 64 rfl rfl⟩)), List.forall_mem_cons.mpr ⟨Or.inl (⟨rfl, xG_k xT_4 205 rfl rfl, xG_k xT_3 60 rfl rfl, xG_k xT_1 18 rfl rfl, xG_k xT_3 61 rfl rfl⟩), fun _ h => absurd h List.not_mem_nil⟩⟩⟩⟩
set_option maxRecDepth 20000 in
theorem ml8_55 : Cond.methodLink xR8 55 y2_isGuest ∈ xG := xG_k xT_4 93 rfl rfl
set_option maxRecDepth 20000 in
theorem ml8_62 : Cond.methodLink xR8 62 y2_isBelt ∈ xG := xG_k xT_4 82 rfl rfl
set_option maxRecDepth 20000 in
theorem ml8_65 : Cond.methodLink xR8 65 y8_holderOf ∈ xG := xG_k xT_4 83 rfl rfl
set_option maxRecDepth 20000 in
theorem ml8_72 : Cond.methodLink xR8 72 y2_isMan ∈ xG := xG_k xT_4 69 rfl rfl
set_option maxRecDepth 20000 in
theorem ml8_75 : Cond.methodLink xR8 75 y2_canDrown ∈ xG := xG_k xT_4 159 rfl rfl
set_option maxRecDepth 20000 in
theorem ml8_81 : Cond.methodLink xR8 81 y2_isBorne ∈ xG := xG_k xT_4 163 rfl rfl
set_option maxRecDepth 20000 in
theorem ml8_85 : Cond.methodLink xR8 85 y2_isShabby ∈ xG := xG_k xT_4 94 rfl rfl
set_option maxRecDepth 20000 in
theorem ml8_88 : Cond.methodLink xR8 88 y8_wantsBelt ∈ xG := xG_k xT_4 89 rfl rfl
set_option maxRecDepth 20000 in
theorem ml8_91 : Cond.methodLink xR8 91 y8_isCrying ∈ xG := xG_k xT_5 9 rfl rfl
set_option maxRecDepth 20000 in
theorem ml8_94 : Cond.methodLink xR8 94 y8_isFree ∈ xG := xG_k xT_4 88 rfl rfl
set_option maxRecDepth 20000 in
theorem ml8_108 : Cond.methodLink xR8 108 y8_isOnWall ∈ xG := xG_k xT_4 78 rfl rfl
set_option maxRecDepth 20000 in
theorem ml8_111 : Cond.methodLink xR8 111 y8_canReach ∈ xG := xG_k xT_4 84 rfl rfl
set_option maxRecDepth 20000 in
theorem ml8_114 : Cond.methodLink xR8 114 y8_isIn ∈ xG := xG_k xT_4 147 rfl rfl
set_option maxRecDepth 20000 in
theorem ml8_117 : Cond.methodLink xR8 117 y8_drowns ∈ xG := xG_k xT_4 151 rfl rfl
set_option maxRecDepth 20000 in
theorem ml8_120 : Cond.methodLink xR8 120 y8_comeNearer ∈ xG := xG_k xT_4 167 rfl rfl
set_option maxRecDepth 20000 in
theorem ml8_124 : Cond.methodLink xR8 124 y8_rise ∈ xG := xG_k xT_4 171 rfl rfl
set_option maxRecDepth 20000 in
theorem ml8_127 : Cond.methodLink xR8 127 y8_isUnder ∈ xG := xG_k xT_4 155 rfl rfl
set_option maxRecDepth 20000 in
theorem ml8_130 : Cond.methodLink xR8 130 y8_whoIs ∈ xG := xG_k xT_4 175 rfl rfl
set_option maxRecDepth 20000 in
theorem ml8_133 : Cond.methodLink xR8 133 yJ_bitCount ∈ xG := xG_k xT_4 179 rfl rfl
set_option maxRecDepth 20000 in
theorem ml8_138 : Cond.methodLink xR8 138 y8_wall ∈ xG := xG_k xT_4 185 rfl rfl
set_option maxRecDepth 20000 in
theorem ml8_146 : Cond.methodLink xR8 146 y4_value ∈ xG := xG_k xT_4 189 rfl rfl
def fl9 : List (Nat × Nat × Nat) := [(16, 9, 0), (9, 9, 1), (13, 9, 2)]
set_option maxRecDepth 20000 in
theorem flk9 : ∀ q ∈ fl9, xfl xR9 q := List.forall_mem_cons.mpr ⟨⟨xR9, xT9, 3, rfl, by decide, xG_k xT_2 82 rfl rfl⟩, List.forall_mem_cons.mpr ⟨⟨xR9, xT9, 3, rfl, by decide, xG_k xT_2 84 rfl rfl⟩, List.forall_mem_cons.mpr ⟨⟨xR9, xT9, 3, rfl, by decide, xG_k xT_2 85 rfl rfl⟩, fun _ h => absurd h List.not_mem_nil⟩⟩⟩
def cl9 : List (Nat × Int32) := []
set_option maxRecDepth 20000 in
theorem clk9 : ∀ q ∈ cl9, Cond.constant xR9 q.1 q.2 ∈ xG := fun _ h => absurd h List.not_mem_nil
def ll9 : List (Nat × Int64) := []
set_option maxRecDepth 20000 in
theorem llk9 : ∀ q ∈ ll9, Cond.constantLong xR9 q.1 q.2 ∈ xG := fun _ h => absurd h List.not_mem_nil
def jl9 : List (Nat × Nat) := [(20, 4)]
set_option maxRecDepth 20000 in
theorem jlk9 : ∀ q ∈ jl9, xjd xR9 q := List.forall_mem_cons.mpr ⟨Or.inr (Or.inr (Or.inr (⟨rfl, xG_k xT_6 40 rfl rfl, xG_k xT_3 219 rfl rfl, xG_k xT_3 218 rfl rfl, xG_k xT_1 20 rfl rfl⟩))), fun _ h => absurd h List.not_mem_nil⟩
set_option maxRecDepth 20000 in
theorem ml9_26 : Cond.methodLink xR9 26 y3_depthBehind ∈ xG := xG_k xT_5 210 rfl rfl
def fl10 : List (Nat × Nat × Nat) := [(13, 10, 1), (9, 10, 0), (17, 10, 2), (20, 10, 7), (34, 10, 3), (37, 10, 4), (43, 10, 6), (56, 10, 5)]
set_option maxRecDepth 20000 in
theorem flk10 : ∀ q ∈ fl10, xfl xR10 q := List.forall_mem_cons.mpr ⟨⟨xR10, xT10, 8, rfl, by decide, xG_k xT_1 41 rfl rfl⟩, List.forall_mem_cons.mpr ⟨⟨xR10, xT10, 8, rfl, by decide, xG_k xT_1 40 rfl rfl⟩, List.forall_mem_cons.mpr ⟨⟨xR10, xT10, 8, rfl, by decide, xG_k xT_1 43 rfl rfl⟩, List.forall_mem_cons.mpr ⟨⟨xR10, xT10, 8, rfl, by decide, xG_k xT_1 55 rfl rfl⟩, List.forall_mem_cons.mpr ⟨⟨xR10, xT10, 8, rfl, by decide, xG_k xT_1 44 rfl rfl⟩, List.forall_mem_cons.mpr ⟨⟨xR10, xT10, 8, rfl, by decide, xG_k xT_1 47 rfl rfl⟩, List.forall_mem_cons.mpr ⟨⟨xR10, xT10, 8, rfl, by decide, xG_k xT_1 51 rfl rfl⟩, List.forall_mem_cons.mpr ⟨⟨xR10, xT10, 8, rfl, by decide, xG_k xT_1 49 rfl rfl⟩, fun _ h => absurd h List.not_mem_nil⟩⟩⟩⟩⟩⟩⟩⟩
def cl10 : List (Nat × Int32) := []
set_option maxRecDepth 20000 in
theorem clk10 : ∀ q ∈ cl10, Cond.constant xR10 q.1 q.2 ∈ xG := fun _ h => absurd h List.not_mem_nil
def ll10 : List (Nat × Int64) := [(47, 32)]
set_option maxRecDepth 20000 in
theorem llk10 : ∀ q ∈ ll10, Cond.constantLong xR10 q.1 q.2 ∈ xG := List.forall_mem_cons.mpr ⟨xG_k xT_2 227 rfl rfl, fun _ h => absurd h List.not_mem_nil⟩
def jl10 : List (Nat × Nat) := []
set_option maxRecDepth 20000 in
theorem jlk10 : ∀ q ∈ jl10, xjd xR10 q := fun _ h => absurd h List.not_mem_nil
set_option maxRecDepth 20000 in
theorem ml10_23 : Cond.methodLink xR10 23 y10_advance ∈ xG := xG_k xT_2 213 rfl rfl
set_option maxRecDepth 20000 in
theorem ml10_26 : Cond.methodLink xR10 26 y10_signAt ∈ xG := xG_k xT_2 217 rfl rfl
set_option maxRecDepth 20000 in
theorem ml10_30 : Cond.methodLink xR10 30 y10_isBlank ∈ xG := xG_k xT_2 221 rfl rfl
set_option maxRecDepth 20000 in
theorem ml10_40 : Cond.methodLink xR10 40 y10_isLetter ∈ xG := xG_k xT_2 224 rfl rfl
set_option maxRecDepth 20000 in
theorem ml10_49 : Cond.methodLink xR10 49 y10_kindOf ∈ xG := xG_k xT_2 228 rfl rfl
set_option maxRecDepth 20000 in
theorem ml10_53 : Cond.methodLink xR10 53 y10_isDigit ∈ xG := xG_k xT_3 40 rfl rfl
set_option maxRecDepth 20000 in
theorem ml10_61 : Cond.methodLink xR10 61 yS_indexOf ∈ xG := xG_k xT_3 44 rfl rfl
set_option maxRecDepth 20000 in
theorem ml10_69 : Cond.methodLink xR10 69 yS_length ∈ xG := xG_k xT_2 232 rfl rfl
set_option maxRecDepth 20000 in
theorem ml10_72 : Cond.methodLink xR10 72 yS_charAt ∈ xG := xG_k xT_3 2 rfl rfl
set_option maxRecDepth 20000 in
theorem ml10_75 : Cond.methodLink xR10 75 y10_isFact ∈ xG := xG_k xT_3 120 rfl rfl
set_option maxRecDepth 20000 in
theorem ml10_79 : Cond.methodLink xR10 79 y10_wrong ∈ xG := xG_k xT_3 124 rfl rfl
def fl11 : List (Nat × Nat × Nat) := [(10, 11, 0), (95, 10, 1), (28, 11, 2), (19, 11, 1), (106, 7, 0), (47, 11, 5), (35, 11, 3), (71, 11, 9), (57, 11, 7), (63, 11, 8), (39, 11, 4), (134, 2, 6), (138, 8, 1), (141, 2, 8), (144, 8, 2), (147, 2, 10), (150, 8, 4), (153, 8, 3), (159, 2, 12), (169, 2, 14), (172, 2, 15), (197, 8, 6), (51, 11, 6), (218, 2, 0), (230, 8, 7), (87, 11, 11), (264, 6, 2), (267, 6, 3), (270, 6, 4), (273, 2, 1), (285, 2, 2), (78, 11, 10), (368, 8, 8), (374, 1, 0), (377, 9, 0), (380, 0, 2)]
set_option maxRecDepth 20000 in
theorem flk11 : ∀ q ∈ fl11, xfl xR11 q := List.forall_mem_cons.mpr ⟨⟨xR11, xT11, 12, rfl, by decide, xG_k xT_2 148 rfl rfl⟩, List.forall_mem_cons.mpr ⟨⟨xR10, xT10, 8, rfl, by decide, xG_k xT_1 42 rfl rfl⟩, List.forall_mem_cons.mpr ⟨⟨xR11, xT11, 12, rfl, by decide, xG_k xT_2 150 rfl rfl⟩, List.forall_mem_cons.mpr ⟨⟨xR11, xT11, 12, rfl, by decide, xG_k xT_2 149 rfl rfl⟩, List.forall_mem_cons.mpr ⟨⟨xR7, xT7, 5, rfl, by decide, xG_k xT_1 207 rfl rfl⟩, List.forall_mem_cons.mpr ⟨⟨xR11, xT11, 12, rfl, by decide, xG_k xT_2 153 rfl rfl⟩, List.forall_mem_cons.mpr ⟨⟨xR11, xT11, 12, rfl, by decide, xG_k xT_2 151 rfl rfl⟩, List.forall_mem_cons.mpr ⟨⟨xR11, xT11, 12, rfl, by decide, xG_k xT_2 157 rfl rfl⟩, List.forall_mem_cons.mpr ⟨⟨xR11, xT11, 12, rfl, by decide, xG_k xT_2 155 rfl rfl⟩, List.forall_mem_cons.mpr ⟨⟨xR11, xT11, 12, rfl, by decide, xG_k xT_2 156 rfl rfl⟩, List.forall_mem_cons.mpr ⟨⟨xR11, xT11, 12, rfl, by decide, xG_k xT_2 152 rfl rfl⟩, List.forall_mem_cons.mpr ⟨⟨xR2, xT2, 17, rfl, by decide, xG_k xT_1 129 rfl rfl⟩, List.forall_mem_cons.mpr ⟨⟨xR8, xT8, 9, rfl, by decide, xG_k xT_2 14 rfl rfl⟩, List.forall_mem_cons.mpr ⟨⟨xR2, xT2, 17, rfl, by decide, xG_k xT_1 135 rfl rfl⟩, List.forall_mem_cons.mpr ⟨⟨xR8, xT8, 9, rfl, by decide, xG_k xT_2 16 rfl rfl⟩, List.forall_mem_cons.mpr ⟨⟨xR2, xT2, 17, rfl, by decide, xG_k xT_1 142 rfl rfl⟩, List.forall_mem_cons.mpr ⟨⟨xR8, xT8, 9, rfl, by decide, xG_k xT_2 20 rfl rfl⟩, List.forall_mem_cons.mpr ⟨⟨xR8, xT8, 9, rfl, by decide, xG_k xT_2 18 rfl rfl⟩, List.forall_mem_cons.mpr ⟨⟨xR2, xT2, 17, rfl, by decide, xG_k xT_1 148 rfl rfl⟩, List.forall_mem_cons.mpr ⟨⟨xR2, xT2, 17, rfl, by decide, xG_k xT_1 154 rfl rfl⟩, List.forall_mem_cons.mpr ⟨⟨xR2, xT2, 17, rfl, by decide, xG_k xT_1 158 rfl rfl⟩, List.forall_mem_cons.mpr ⟨⟨xR8, xT8, 9, rfl, by decide, xG_k xT_2 24 rfl rfl⟩, List.forall_mem_cons.mpr ⟨⟨xR11, xT11, 12, rfl, by decide, xG_k xT_2 154 rfl rfl⟩, List.forall_mem_cons.mpr ⟨⟨xR2, xT2, 17, rfl, by decide, xG_k xT_1 106 rfl rfl⟩, List.forall_mem_cons.mpr ⟨⟨xR8, xT8, 9, rfl, by decide, xG_k xT_2 27 rfl rfl⟩, List.forall_mem_cons.mpr ⟨⟨xR11, xT11, 12, rfl, by decide, xG_k xT_2 159 rfl rfl⟩, List.forall_mem_cons.mpr ⟨⟨xR6, xT6, 7, rfl, by decide, xG_k xT_2 126 rfl rfl⟩, List.forall_mem_cons.mpr ⟨⟨xR6, xT6, 7, rfl, by decide, xG_k xT_2 128 rfl rfl⟩, List.forall_mem_cons.mpr ⟨⟨xR6, xT6, 7, rfl, by decide, xG_k xT_2 130 rfl rfl⟩, List.forall_mem_cons.mpr ⟨⟨xR2, xT2, 17, rfl, by decide, xG_k xT_1 112 rfl rfl⟩, List.forall_mem_cons.mpr ⟨⟨xR2, xT2, 17, rfl, by decide, xG_k xT_1 117 rfl rfl⟩, List.forall_mem_cons.mpr ⟨⟨xR11, xT11, 12, rfl, by decide, xG_k xT_2 158 rfl rfl⟩, List.forall_mem_cons.mpr ⟨⟨xR8, xT8, 9, rfl, by decide, xG_k xT_2 29 rfl rfl⟩, List.forall_mem_cons.mpr ⟨⟨xR1, xT1, 5, rfl, by decide, xG_k xT_1 230 rfl rfl⟩, List.forall_mem_cons.mpr ⟨⟨xR9, xT9, 3, rfl, by decide, xG_k xT_2 83 rfl rfl⟩, List.forall_mem_cons.mpr ⟨⟨xR0, xT0, 3, rfl, by decide, xG_k xT_2 61 rfl rfl⟩, fun _ h => absurd h List.not_mem_nil⟩⟩⟩⟩⟩⟩⟩⟩⟩⟩⟩⟩⟩⟩⟩⟩⟩⟩⟩⟩⟩⟩⟩⟩⟩⟩⟩⟩⟩⟩⟩⟩⟩⟩⟩⟩
def cl11 : List (Nat × Int32) := []
set_option maxRecDepth 20000 in
theorem clk11 : ∀ q ∈ cl11, Cond.constant xR11 q.1 q.2 ∈ xG := fun _ h => absurd h List.not_mem_nil
def ll11 : List (Nat × Int64) := [(353, 1103515245), (355, 12345), (357, 2147483648), (359, 65536)]
set_option maxRecDepth 20000 in
theorem llk11 : ∀ q ∈ ll11, Cond.constantLong xR11 q.1 q.2 ∈ xG := List.forall_mem_cons.mpr ⟨xG_k xT_6 16 rfl rfl, List.forall_mem_cons.mpr ⟨xG_k xT_6 17 rfl rfl, List.forall_mem_cons.mpr ⟨xG_k xT_6 18 rfl rfl, List.forall_mem_cons.mpr ⟨xG_k xT_6 22 rfl rfl, fun _ h => absurd h List.not_mem_nil⟩⟩⟩⟩
def jl11 : List (Nat × Nat) := [(288, 3), (296, 1)]
set_option maxRecDepth 20000 in
theorem jlk11 : ∀ q ∈ jl11, xjd xR11 q := List.forall_mem_cons.mpr ⟨Or.inr (Or.inr (Or.inl (⟨rfl, xG_k xT_5 144 rfl rfl, xG_k xT_4 99 rfl rfl, xG_k xT_1 18 rfl rfl, xG_k xT_4 100 rfl rfl⟩))), List.forall_mem_cons.mpr ⟨Or.inl (⟨rfl, xG_k xT_5 157 rfl rfl, xG_k xT_3 60 rfl rfl, xG_k xT_1 18 rfl rfl, xG_k xT_3 61 rfl rfl⟩), fun _ h => absurd h List.not_mem_nil⟩⟩
set_option maxRecDepth 20000 in
theorem ml11_91 : Cond.methodLink xR11 91 y10_putEight ∈ xG := xG_k xT_2 189 rfl rfl
set_option maxRecDepth 20000 in
theorem ml11_99 : Cond.methodLink xR11 99 y7_read ∈ xG := xG_k xT_2 197 rfl rfl
set_option maxRecDepth 20000 in
theorem ml11_103 : Cond.methodLink xR11 103 y10_clear ∈ xG := xG_k xT_3 209 rfl rfl
set_option maxRecDepth 20000 in
theorem ml11_109 : Cond.methodLink xR11 109 y2_copyFrom ∈ xG := xG_k xT_3 213 rfl rfl
set_option maxRecDepth 20000 in
theorem ml11_112 : Cond.methodLink xR11 112 y8_begin ∈ xG := xG_k xT_3 225 rfl rfl
set_option maxRecDepth 20000 in
theorem ml11_115 : Cond.methodLink xR11 115 y1_clear ∈ xG := xG_k xT_3 229 rfl rfl
set_option maxRecDepth 20000 in
theorem ml11_116 : Cond.methodLink xR11 116 y9_clear ∈ xG := xG_k xT_3 233 rfl rfl
set_option maxRecDepth 20000 in
theorem ml11_117 : Cond.methodLink xR11 117 y0_clear ∈ xG := xG_k xT_3 237 rfl rfl
set_option maxRecDepth 20000 in
theorem ml11_118 : Cond.methodLink xR11 118 y11_liftMarks ∈ xG := xG_k xT_4 1 rfl rfl
set_option maxRecDepth 20000 in
theorem ml11_121 : Cond.methodLink xR11 121 y5_lift ∈ xG := xG_k xT_4 5 rfl rfl
set_option maxRecDepth 20000 in
theorem ml11_124 : Cond.methodLink xR11 124 y1_read ∈ xG := xG_k xT_4 14 rfl rfl
set_option maxRecDepth 20000 in
theorem ml11_127 : Cond.methodLink xR11 127 y1_copyFrom ∈ xG := xG_k xT_4 32 rfl rfl
set_option maxRecDepth 20000 in
theorem ml11_130 : Cond.methodLink xR11 130 y2_isGuest ∈ xG := xG_k xT_4 41 rfl rfl
set_option maxRecDepth 20000 in
theorem ml11_156 : Cond.methodLink xR11 156 y2_isBelt ∈ xG := xG_k xT_4 49 rfl rfl
set_option maxRecDepth 20000 in
theorem ml11_162 : Cond.methodLink xR11 162 y8_holderOf ∈ xG := xG_k xT_4 53 rfl rfl
set_option maxRecDepth 20000 in
theorem ml11_166 : Cond.methodLink xR11 166 y2_isMan ∈ xG := xG_k xT_4 61 rfl rfl
set_option maxRecDepth 20000 in
theorem ml11_175 : Cond.methodLink xR11 175 y8_isFree ∈ xG := xG_k xT_4 65 rfl rfl
set_option maxRecDepth 20000 in
theorem ml11_178 : Cond.methodLink xR11 178 y8_canCast ∈ xG := xG_k xT_4 74 rfl rfl
set_option maxRecDepth 20000 in
theorem ml11_182 : Cond.methodLink xR11 182 y0_keep ∈ xG := xG_k xT_4 101 rfl rfl
set_option maxRecDepth 20000 in
theorem ml11_186 : Cond.methodLink xR11 186 y8_giveBelt ∈ xG := xG_k xT_4 111 rfl rfl
set_option maxRecDepth 20000 in
theorem ml11_190 : Cond.methodLink xR11 190 y8_canAsk ∈ xG := xG_k xT_4 119 rfl rfl
set_option maxRecDepth 20000 in
theorem ml11_194 : Cond.methodLink xR11 194 y8_openGap ∈ xG := xG_k xT_4 123 rfl rfl
set_option maxRecDepth 20000 in
theorem ml11_200 : Cond.methodLink xR11 200 y8_canStop ∈ xG := xG_k xT_4 131 rfl rfl
set_option maxRecDepth 20000 in
theorem ml11_203 : Cond.methodLink xR11 203 y8_closeGap ∈ xG := xG_k xT_4 135 rfl rfl
set_option maxRecDepth 20000 in
theorem ml11_207 : Cond.methodLink xR11 207 y8_pass ∈ xG := xG_k xT_4 143 rfl rfl
set_option maxRecDepth 20000 in
theorem ml11_210 : Cond.methodLink xR11 210 y0_bringBack ∈ xG := xG_k xT_4 210 rfl rfl
set_option maxRecDepth 20000 in
theorem ml11_214 : Cond.methodLink xR11 214 y1_judge ∈ xG := xG_k xT_4 218 rfl rfl
set_option maxRecDepth 20000 in
theorem ml11_221 : Cond.methodLink xR11 221 y8_isUnder ∈ xG := xG_k xT_5 0 rfl rfl
set_option maxRecDepth 20000 in
theorem ml11_224 : Cond.methodLink xR11 224 y8_criers ∈ xG := xG_k xT_5 5 rfl rfl
set_option maxRecDepth 20000 in
theorem ml11_227 : Cond.methodLink xR11 227 y11_goAhead ∈ xG := xG_k xT_5 17 rfl rfl
set_option maxRecDepth 20000 in
theorem ml11_233 : Cond.methodLink xR11 233 y8_copyFrom ∈ xG := xG_k xT_5 21 rfl rfl
set_option maxRecDepth 20000 in
theorem ml11_235 : Cond.methodLink xR11 235 y11_minutesUntil ∈ xG := xG_k xT_5 30 rfl rfl
set_option maxRecDepth 20000 in
theorem ml11_239 : Cond.methodLink xR11 239 y8_isIn ∈ xG := xG_k xT_5 34 rfl rfl
set_option maxRecDepth 20000 in
theorem ml11_242 : Cond.methodLink xR11 242 y8_isInState ∈ xG := xG_k xT_5 35 rfl rfl
set_option maxRecDepth 20000 in
theorem ml11_246 : Cond.methodLink xR11 246 y11_lowestBit ∈ xG := xG_k xT_5 43 rfl rfl
set_option maxRecDepth 20000 in
theorem ml11_249 : Cond.methodLink xR11 249 y8_whoIs ∈ xG := xG_k xT_5 54 rfl rfl
set_option maxRecDepth 20000 in
theorem ml11_252 : Cond.methodLink xR11 252 y8_isCrying ∈ xG := xG_k xT_5 59 rfl rfl
set_option maxRecDepth 20000 in
theorem ml11_255 : Cond.methodLink xR11 255 y8_borneBy ∈ xG := xG_k xT_5 68 rfl rfl
set_option maxRecDepth 20000 in
theorem ml11_258 : Cond.methodLink xR11 258 y8_canReach ∈ xG := xG_k xT_5 76 rfl rfl
set_option maxRecDepth 20000 in
theorem ml11_261 : Cond.methodLink xR11 261 y6_plan ∈ xG := xG_k xT_5 81 rfl rfl
set_option maxRecDepth 20000 in
theorem ml11_276 : Cond.methodLink xR11 276 y2_bearsAll ∈ xG := xG_k xT_5 110 rfl rfl
set_option maxRecDepth 20000 in
theorem ml11_279 : Cond.methodLink xR11 279 y2_bearing ∈ xG := xG_k xT_5 123 rfl rfl
set_option maxRecDepth 20000 in
theorem ml11_282 : Cond.methodLink xR11 282 y2_leastBelt ∈ xG := xG_k xT_5 131 rfl rfl
set_option maxRecDepth 20000 in
theorem ml11_293 : Cond.methodLink xR11 293 y8_manyAt ∈ xG := xG_k xT_5 153 rfl rfl
set_option maxRecDepth 20000 in
theorem ml11_299 : Cond.methodLink xR11 299 y2_canDrown ∈ xG := xG_k xT_5 166 rfl rfl
set_option maxRecDepth 20000 in
theorem ml11_302 : Cond.methodLink xR11 302 y8_isOnWall ∈ xG := xG_k xT_5 171 rfl rfl
set_option maxRecDepth 20000 in
theorem ml11_305 : Cond.methodLink xR11 305 y11_isSavedBy ∈ xG := xG_k xT_5 176 rfl rfl
set_option maxRecDepth 20000 in
theorem ml11_308 : Cond.methodLink xR11 308 y9_add ∈ xG := xG_k xT_5 188 rfl rfl
set_option maxRecDepth 20000 in
theorem ml11_311 : Cond.methodLink xR11 311 y3_open ∈ xG := xG_k xT_5 196 rfl rfl
set_option maxRecDepth 20000 in
theorem ml11_314 : Cond.methodLink xR11 314 y3_possible ∈ xG := xG_k xT_5 202 rfl rfl
set_option maxRecDepth 20000 in
theorem ml11_318 : Cond.methodLink xR11 318 y3_tellingMinute ∈ xG := xG_k xT_5 218 rfl rfl
set_option maxRecDepth 20000 in
theorem ml11_321 : Cond.methodLink xR11 321 y11_weightOf ∈ xG := xG_k xT_5 238 rfl rfl
set_option maxRecDepth 20000 in
theorem ml11_325 : Cond.methodLink xR11 325 y11_isSunkBy ∈ xG := xG_k xT_6 1 rfl rfl
set_option maxRecDepth 20000 in
theorem ml11_328 : Cond.methodLink xR11 328 y11_isPrize ∈ xG := xG_k xT_6 58 rfl rfl
set_option maxRecDepth 20000 in
theorem ml11_334 : Cond.methodLink xR11 334 y11_gain ∈ xG := xG_k xT_6 122 rfl rfl
set_option maxRecDepth 20000 in
theorem ml11_338 : Cond.methodLink xR11 338 y11_playBalls ∈ xG := xG_k xT_6 9 rfl rfl
set_option maxRecDepth 20000 in
theorem ml11_341 : Cond.methodLink xR11 341 y11_nextDraw ∈ xG := xG_k xT_6 13 rfl rfl
set_option maxRecDepth 20000 in
theorem ml11_345 : Cond.methodLink xR11 345 y11_below ∈ xG := xG_k xT_6 19 rfl rfl
set_option maxRecDepth 20000 in
theorem ml11_349 : Cond.methodLink xR11 349 y11_dance ∈ xG := xG_k xT_6 23 rfl rfl
set_option maxRecDepth 20000 in
theorem ml11_361 : Cond.methodLink xR11 361 y5_lay ∈ xG := xG_k xT_6 31 rfl rfl
set_option maxRecDepth 20000 in
theorem ml11_365 : Cond.methodLink xR11 365 y5_bringBack ∈ xG := xG_k xT_6 41 rfl rfl
set_option maxRecDepth 20000 in
theorem ml11_371 : Cond.methodLink xR11 371 y8_wall ∈ xG := xG_k xT_6 49 rfl rfl
def fl12 : List (Nat × Nat × Nat) := [(1, 12, 0), (11, 12, 2), (14, 12, 1), (154, 12, 3), (27, 12, 5), (24, 12, 4), (30, 12, 6), (173, 12, 7), (176, 12, 8), (88, 12, 9), (91, 12, 10), (201, 12, 19), (204, 12, 18), (103, 12, 15), (100, 12, 14), (109, 12, 17), (106, 12, 16), (222, 12, 13), (225, 12, 20), (94, 12, 11), (97, 12, 12), (112, 12, 21), (118, 12, 23), (115, 12, 22), (121, 12, 24), (292, 12, 25), (124, 12, 26), (128, 12, 27), (131, 12, 28), (403, 12, 31), (134, 12, 29), (137, 12, 30), (140, 12, 32), (439, 12, 33)]
set_option maxRecDepth 20000 in
theorem flk12 : ∀ q ∈ fl12, xfl xR12 q := List.forall_mem_cons.mpr ⟨⟨xR12, xT12, 34, rfl, by decide, xG_k xT_6 190 rfl rfl⟩, List.forall_mem_cons.mpr ⟨⟨xR12, xT12, 34, rfl, by decide, xG_k xT_6 192 rfl rfl⟩, List.forall_mem_cons.mpr ⟨⟨xR12, xT12, 34, rfl, by decide, xG_k xT_6 191 rfl rfl⟩, List.forall_mem_cons.mpr ⟨⟨xR12, xT12, 34, rfl, by decide, xG_k xT_6 193 rfl rfl⟩, List.forall_mem_cons.mpr ⟨⟨xR12, xT12, 34, rfl, by decide, xG_k xT_6 195 rfl rfl⟩, List.forall_mem_cons.mpr ⟨⟨xR12, xT12, 34, rfl, by decide, xG_k xT_6 194 rfl rfl⟩, List.forall_mem_cons.mpr ⟨⟨xR12, xT12, 34, rfl, by decide, xG_k xT_6 196 rfl rfl⟩, List.forall_mem_cons.mpr ⟨⟨xR12, xT12, 34, rfl, by decide, xG_k xT_6 197 rfl rfl⟩, List.forall_mem_cons.mpr ⟨⟨xR12, xT12, 34, rfl, by decide, xG_k xT_6 198 rfl rfl⟩, List.forall_mem_cons.mpr ⟨⟨xR12, xT12, 34, rfl, by decide, xG_k xT_6 199 rfl rfl⟩, List.forall_mem_cons.mpr ⟨⟨xR12, xT12, 34, rfl, by decide, xG_k xT_6 200 rfl rfl⟩, List.forall_mem_cons.mpr ⟨⟨xR12, xT12, 34, rfl, by decide, xG_k xT_6 209 rfl rfl⟩, List.forall_mem_cons.mpr ⟨⟨xR12, xT12, 34, rfl, by decide, xG_k xT_6 208 rfl rfl⟩, List.forall_mem_cons.mpr ⟨⟨xR12, xT12, 34, rfl, by decide, xG_k xT_6 205 rfl rfl⟩, List.forall_mem_cons.mpr ⟨⟨xR12, xT12, 34, rfl, by decide, xG_k xT_6 204 rfl rfl⟩, List.forall_mem_cons.mpr ⟨⟨xR12, xT12, 34, rfl, by decide, xG_k xT_6 207 rfl rfl⟩, List.forall_mem_cons.mpr ⟨⟨xR12, xT12, 34, rfl, by decide, xG_k xT_6 206 rfl rfl⟩, List.forall_mem_cons.mpr ⟨⟨xR12, xT12, 34, rfl, by decide, xG_k xT_6 203 rfl rfl⟩, List.forall_mem_cons.mpr ⟨⟨xR12, xT12, 34, rfl, by decide, xG_k xT_6 210 rfl rfl⟩, List.forall_mem_cons.mpr ⟨⟨xR12, xT12, 34, rfl, by decide, xG_k xT_6 201 rfl rfl⟩, List.forall_mem_cons.mpr ⟨⟨xR12, xT12, 34, rfl, by decide, xG_k xT_6 202 rfl rfl⟩, List.forall_mem_cons.mpr ⟨⟨xR12, xT12, 34, rfl, by decide, xG_k xT_6 211 rfl rfl⟩, List.forall_mem_cons.mpr ⟨⟨xR12, xT12, 34, rfl, by decide, xG_k xT_6 213 rfl rfl⟩, List.forall_mem_cons.mpr ⟨⟨xR12, xT12, 34, rfl, by decide, xG_k xT_6 212 rfl rfl⟩, List.forall_mem_cons.mpr ⟨⟨xR12, xT12, 34, rfl, by decide, xG_k xT_6 214 rfl rfl⟩, List.forall_mem_cons.mpr ⟨⟨xR12, xT12, 34, rfl, by decide, xG_k xT_6 215 rfl rfl⟩, List.forall_mem_cons.mpr ⟨⟨xR12, xT12, 34, rfl, by decide, xG_k xT_6 216 rfl rfl⟩, List.forall_mem_cons.mpr ⟨⟨xR12, xT12, 34, rfl, by decide, xG_k xT_6 217 rfl rfl⟩, List.forall_mem_cons.mpr ⟨⟨xR12, xT12, 34, rfl, by decide, xG_k xT_6 218 rfl rfl⟩, List.forall_mem_cons.mpr ⟨⟨xR12, xT12, 34, rfl, by decide, xG_k xT_6 221 rfl rfl⟩, List.forall_mem_cons.mpr ⟨⟨xR12, xT12, 34, rfl, by decide, xG_k xT_6 219 rfl rfl⟩, List.forall_mem_cons.mpr ⟨⟨xR12, xT12, 34, rfl, by decide, xG_k xT_6 220 rfl rfl⟩, List.forall_mem_cons.mpr ⟨⟨xR12, xT12, 34, rfl, by decide, xG_k xT_6 222 rfl rfl⟩, List.forall_mem_cons.mpr ⟨⟨xR12, xT12, 34, rfl, by decide, xG_k xT_6 223 rfl rfl⟩, fun _ h => absurd h List.not_mem_nil⟩⟩⟩⟩⟩⟩⟩⟩⟩⟩⟩⟩⟩⟩⟩⟩⟩⟩⟩⟩⟩⟩⟩⟩⟩⟩⟩⟩⟩⟩⟩⟩⟩⟩
def cl12 : List (Nat × Int32) := []
set_option maxRecDepth 20000 in
theorem clk12 : ∀ q ∈ cl12, Cond.constant xR12 q.1 q.2 ∈ xG := fun _ h => absurd h List.not_mem_nil
def ll12 : List (Nat × Int64) := [(157, 37), (166, 10), (168, 48), (433, 1000000), (443, 1103515245), (445, 12345), (447, 2147483648), (449, 65536)]
set_option maxRecDepth 20000 in
theorem llk12 : ∀ q ∈ ll12, Cond.constantLong xR12 q.1 q.2 ∈ xG := List.forall_mem_cons.mpr ⟨xG_k xT_7 65 rfl rfl, List.forall_mem_cons.mpr ⟨xG_k xT_7 72 rfl rfl, List.forall_mem_cons.mpr ⟨xG_k xT_7 73 rfl rfl, List.forall_mem_cons.mpr ⟨xG_k xT_9 34 rfl rfl, List.forall_mem_cons.mpr ⟨xG_k xT_9 54 rfl rfl, List.forall_mem_cons.mpr ⟨xG_k xT_9 55 rfl rfl, List.forall_mem_cons.mpr ⟨xG_k xT_9 56 rfl rfl, List.forall_mem_cons.mpr ⟨xG_k xT_9 57 rfl rfl, fun _ h => absurd h List.not_mem_nil⟩⟩⟩⟩⟩⟩⟩⟩
def jl12 : List (Nat × Nat) := []
set_option maxRecDepth 20000 in
theorem jlk12 : ∀ q ∈ jl12, xjd xR12 q := fun _ h => absurd h List.not_mem_nil
set_option maxRecDepth 20000 in
theorem ml12_7 : Cond.methodLink xR12 7 y12_lay ∈ xG := xG_k xT_6 133 rfl rfl
set_option maxRecDepth 20000 in
theorem ml12_150 : Cond.methodLink xR12 150 y12_isLetter ∈ xG := xG_k xT_7 62 rfl rfl
set_option maxRecDepth 20000 in
theorem ml12_159 : Cond.methodLink xR12 159 y12_rank ∈ xG := xG_k xT_7 66 rfl rfl
set_option maxRecDepth 20000 in
theorem ml12_163 : Cond.methodLink xR12 163 y12_isDigit ∈ xG := xG_k xT_7 69 rfl rfl
set_option maxRecDepth 20000 in
theorem ml12_170 : Cond.methodLink xR12 170 y12_isSignOf ∈ xG := xG_k xT_7 74 rfl rfl
set_option maxRecDepth 20000 in
theorem ml12_179 : Cond.methodLink xR12 179 y12_isSign ∈ xG := xG_k xT_7 153 rfl rfl
set_option maxRecDepth 20000 in
theorem ml12_182 : Cond.methodLink xR12 182 y12_wrong ∈ xG := xG_k xT_7 93 rfl rfl
set_option maxRecDepth 20000 in
theorem ml12_185 : Cond.methodLink xR12 185 y12_isWord ∈ xG := xG_k xT_7 81 rfl rfl
set_option maxRecDepth 20000 in
theorem ml12_188 : Cond.methodLink xR12 188 y12_hasWord ∈ xG := xG_k xT_7 121 rfl rfl
set_option maxRecDepth 20000 in
theorem ml12_191 : Cond.methodLink xR12 191 y12_takeWord ∈ xG := xG_k xT_7 117 rfl rfl
set_option maxRecDepth 20000 in
theorem ml12_194 : Cond.methodLink xR12 194 y12_takeNumber ∈ xG := xG_k xT_7 125 rfl rfl
set_option maxRecDepth 20000 in
theorem ml12_198 : Cond.methodLink xR12 198 y12_wordHere ∈ xG := xG_k xT_7 101 rfl rfl
set_option maxRecDepth 20000 in
theorem ml12_207 : Cond.methodLink xR12 207 y12_isName ∈ xG := xG_k xT_7 97 rfl rfl
set_option maxRecDepth 20000 in
theorem ml12_211 : Cond.methodLink xR12 211 y12_nameAt ∈ xG := xG_k xT_7 105 rfl rfl
set_option maxRecDepth 20000 in
theorem ml12_215 : Cond.methodLink xR12 215 y12_within ∈ xG := xG_k xT_7 181 rfl rfl
set_option maxRecDepth 20000 in
theorem ml12_219 : Cond.methodLink xR12 219 y12_cutAll ∈ xG := xG_k xT_7 58 rfl rfl
set_option maxRecDepth 20000 in
theorem ml12_143 : Cond.methodLink xR12 143 y12_standsAsAlways ∈ xG := xG_k xT_6 170 rfl rfl
set_option maxRecDepth 20000 in
theorem ml12_228 : Cond.methodLink xR12 228 y12_readLine ∈ xG := xG_k xT_7 77 rfl rfl
set_option maxRecDepth 20000 in
theorem ml12_231 : Cond.methodLink xR12 231 y12_takeSign ∈ xG := xG_k xT_7 165 rfl rfl
set_option maxRecDepth 20000 in
theorem ml12_147 : Cond.methodLink xR12 147 y12_begins ∈ xG := xG_k xT_6 174 rfl rfl
set_option maxRecDepth 20000 in
theorem ml12_234 : Cond.methodLink xR12 234 y12_readGuest ∈ xG := xG_k xT_7 85 rfl rfl
set_option maxRecDepth 20000 in
theorem ml12_237 : Cond.methodLink xR12 237 y12_readName ∈ xG := xG_k xT_7 89 rfl rfl
set_option maxRecDepth 20000 in
theorem ml12_241 : Cond.methodLink xR12 241 y12_takeAfter ∈ xG := xG_k xT_7 113 rfl rfl
set_option maxRecDepth 20000 in
theorem ml12_245 : Cond.methodLink xR12 245 y12_readOnce ∈ xG := xG_k xT_7 129 rfl rfl
set_option maxRecDepth 20000 in
theorem ml12_248 : Cond.methodLink xR12 248 y12_takeOne ∈ xG := xG_k xT_7 109 rfl rfl
set_option maxRecDepth 20000 in
theorem ml12_251 : Cond.methodLink xR12 251 y12_whole ∈ xG := xG_k xT_7 133 rfl rfl
set_option maxRecDepth 20000 in
theorem ml12_254 : Cond.methodLink xR12 254 y12_emit ∈ xG := xG_k xT_7 157 rfl rfl
set_option maxRecDepth 20000 in
theorem ml12_258 : Cond.methodLink xR12 258 y12_readEvening ∈ xG := xG_k xT_7 173 rfl rfl
set_option maxRecDepth 20000 in
theorem ml12_261 : Cond.methodLink xR12 261 y12_takeTold ∈ xG := xG_k xT_7 177 rfl rfl
set_option maxRecDepth 20000 in
theorem ml12_264 : Cond.methodLink xR12 264 y12_test ∈ xG := xG_k xT_7 137 rfl rfl
set_option maxRecDepth 20000 in
theorem ml12_267 : Cond.methodLink xR12 267 y12_sums ∈ xG := xG_k xT_7 141 rfl rfl
set_option maxRecDepth 20000 in
theorem ml12_270 : Cond.methodLink xR12 270 y12_hasSign ∈ xG := xG_k xT_7 161 rfl rfl
set_option maxRecDepth 20000 in
theorem ml12_273 : Cond.methodLink xR12 273 y12_products ∈ xG := xG_k xT_7 145 rfl rfl
set_option maxRecDepth 20000 in
theorem ml12_276 : Cond.methodLink xR12 276 y12_takePart ∈ xG := xG_k xT_7 149 rfl rfl
set_option maxRecDepth 20000 in
theorem ml12_279 : Cond.methodLink xR12 279 y12_both ∈ xG := xG_k xT_8 79 rfl rfl
set_option maxRecDepth 20000 in
theorem ml12_282 : Cond.methodLink xR12 282 y12_guests ∈ xG := xG_k xT_6 182 rfl rfl
set_option maxRecDepth 20000 in
theorem ml12_286 : Cond.methodLink xR12 286 y12_guestOf ∈ xG := xG_k xT_6 186 rfl rfl
set_option maxRecDepth 20000 in
theorem ml12_289 : Cond.methodLink xR12 289 y12_starts ∈ xG := xG_k xT_6 178 rfl rfl
set_option maxRecDepth 20000 in
theorem ml12_295 : Cond.methodLink xR12 295 y12_copies ∈ xG := xG_k xT_8 20 rfl rfl
set_option maxRecDepth 20000 in
theorem ml12_298 : Cond.methodLink xR12 298 y12_belts ∈ xG := xG_k xT_7 204 rfl rfl
set_option maxRecDepth 20000 in
theorem ml12_301 : Cond.methodLink xR12 301 y12_men ∈ xG := xG_k xT_7 220 rfl rfl
set_option maxRecDepth 20000 in
theorem ml12_304 : Cond.methodLink xR12 304 y12_bearsOf ∈ xG := xG_k xT_7 208 rfl rfl
set_option maxRecDepth 20000 in
theorem ml12_307 : Cond.methodLink xR12 307 y12_weightOf ∈ xG := xG_k xT_7 192 rfl rfl
set_option maxRecDepth 20000 in
theorem ml12_310 : Cond.methodLink xR12 310 y12_isIn ∈ xG := xG_k xT_8 4 rfl rfl
set_option maxRecDepth 20000 in
theorem ml12_314 : Cond.methodLink xR12 314 y12_doesBear ∈ xG := xG_k xT_8 64 rfl rfl
set_option maxRecDepth 20000 in
theorem ml12_317 : Cond.methodLink xR12 317 y12_doesCry ∈ xG := xG_k xT_8 106 rfl rfl
set_option maxRecDepth 20000 in
theorem ml12_320 : Cond.methodLink xR12 320 y12_manOf ∈ xG := xG_k xT_7 224 rfl rfl
set_option maxRecDepth 20000 in
theorem ml12_323 : Cond.methodLink xR12 323 y12_isFree ∈ xG := xG_k xT_7 228 rfl rfl
set_option maxRecDepth 20000 in
theorem ml12_326 : Cond.methodLink xR12 326 y12_gapTo ∈ xG := xG_k xT_8 8 rfl rfl
set_option maxRecDepth 20000 in
theorem ml12_329 : Cond.methodLink xR12 329 y12_couldCast ∈ xG := xG_k xT_8 0 rfl rfl
set_option maxRecDepth 20000 in
theorem ml12_332 : Cond.methodLink xR12 332 y12_wall ∈ xG := xG_k xT_8 12 rfl rfl
set_option maxRecDepth 20000 in
theorem ml12_335 : Cond.methodLink xR12 335 y12_isUnder ∈ xG := xG_k xT_8 60 rfl rfl
set_option maxRecDepth 20000 in
theorem ml12_338 : Cond.methodLink xR12 338 y12_who ∈ xG := xG_k xT_8 52 rfl rfl
set_option maxRecDepth 20000 in
theorem ml12_341 : Cond.methodLink xR12 341 y12_breathes ∈ xG := xG_k xT_8 56 rfl rfl
set_option maxRecDepth 20000 in
theorem ml12_344 : Cond.methodLink xR12 344 y12_drawsIn ∈ xG := xG_k xT_8 68 rfl rfl
set_option maxRecDepth 20000 in
theorem ml12_347 : Cond.methodLink xR12 347 y12_bits ∈ xG := xG_k xT_8 72 rfl rfl
set_option maxRecDepth 20000 in
theorem ml12_350 : Cond.methodLink xR12 350 y12_worthAt ∈ xG := xG_k xT_8 75 rfl rfl
set_option maxRecDepth 20000 in
theorem ml12_353 : Cond.methodLink xR12 353 y12_isGuest ∈ xG := xG_k xT_7 188 rfl rfl
set_option maxRecDepth 20000 in
theorem ml12_356 : Cond.methodLink xR12 356 y12_isBelt ∈ xG := xG_k xT_7 200 rfl rfl
set_option maxRecDepth 20000 in
theorem ml12_359 : Cond.methodLink xR12 359 y12_isMan ∈ xG := xG_k xT_7 216 rfl rfl
set_option maxRecDepth 20000 in
theorem ml12_362 : Cond.methodLink xR12 362 y12_mayCast ∈ xG := xG_k xT_7 236 rfl rfl
set_option maxRecDepth 20000 in
theorem ml12_366 : Cond.methodLink xR12 366 y12_keeps ∈ xG := xG_k xT_8 16 rfl rfl
set_option maxRecDepth 20000 in
theorem ml12_369 : Cond.methodLink xR12 369 y12_casts ∈ xG := xG_k xT_8 24 rfl rfl
set_option maxRecDepth 20000 in
theorem ml12_373 : Cond.methodLink xR12 373 y12_mayStop ∈ xG := xG_k xT_8 36 rfl rfl
set_option maxRecDepth 20000 in
theorem ml12_376 : Cond.methodLink xR12 376 y12_stops ∈ xG := xG_k xT_8 40 rfl rfl
set_option maxRecDepth 20000 in
theorem ml12_379 : Cond.methodLink xR12 379 y12_passes ∈ xG := xG_k xT_8 48 rfl rfl
set_option maxRecDepth 20000 in
theorem ml12_382 : Cond.methodLink xR12 382 y12_underNow ∈ xG := xG_k xT_8 94 rfl rfl
set_option maxRecDepth 20000 in
theorem ml12_385 : Cond.methodLink xR12 385 y12_criers ∈ xG := xG_k xT_8 102 rfl rfl
set_option maxRecDepth 20000 in
theorem ml12_388 : Cond.methodLink xR12 388 y12_triesNow ∈ xG := xG_k xT_8 114 rfl rfl
set_option maxRecDepth 20000 in
theorem ml12_391 : Cond.methodLink xR12 391 y12_becomes ∈ xG := xG_k xT_8 130 rfl rfl
set_option maxRecDepth 20000 in
theorem ml12_394 : Cond.methodLink xR12 394 y12_sinksIn ∈ xG := xG_k xT_8 126 rfl rfl
set_option maxRecDepth 20000 in
theorem ml12_397 : Cond.methodLink xR12 397 y12_fitsOf ∈ xG := xG_k xT_8 158 rfl rfl
set_option maxRecDepth 20000 in
theorem ml12_400 : Cond.methodLink xR12 400 y12_beltsFrom ∈ xG := xG_k xT_8 174 rfl rfl
set_option maxRecDepth 20000 in
theorem ml12_406 : Cond.methodLink xR12 406 y12_castsFrom ∈ xG := xG_k xT_8 170 rfl rfl
set_option maxRecDepth 20000 in
theorem ml12_409 : Cond.methodLink xR12 409 y12_doesHold ∈ xG := xG_k xT_8 186 rfl rfl
set_option maxRecDepth 20000 in
theorem ml12_412 : Cond.methodLink xR12 412 y12_bearOf ∈ xG := xG_k xT_8 190 rfl rfl
set_option maxRecDepth 20000 in
theorem ml12_415 : Cond.methodLink xR12 415 y12_enoughFor ∈ xG := xG_k xT_8 198 rfl rfl
set_option maxRecDepth 20000 in
theorem ml12_418 : Cond.methodLink xR12 418 y12_doesSave ∈ xG := xG_k xT_8 214 rfl rfl
set_option maxRecDepth 20000 in
theorem ml12_421 : Cond.methodLink xR12 421 y12_manyAt ∈ xG := xG_k xT_8 238 rfl rfl
set_option maxRecDepth 20000 in
theorem ml12_424 : Cond.methodLink xR12 424 y12_denseNow ∈ xG := xG_k xT_8 234 rfl rfl
set_option maxRecDepth 20000 in
theorem ml12_427 : Cond.methodLink xR12 427 y12_depthsNow ∈ xG := xG_k xT_9 22 rfl rfl
set_option maxRecDepth 20000 in
theorem ml12_430 : Cond.methodLink xR12 430 y12_holesNow ∈ xG := xG_k xT_9 18 rfl rfl
set_option maxRecDepth 20000 in
theorem ml12_435 : Cond.methodLink xR12 435 y12_getsBy ∈ xG := xG_k xT_9 39 rfl rfl
set_option maxRecDepth 20000 in
theorem ml12_451 : Cond.methodLink xR12 451 y12_draw ∈ xG := xG_k xT_9 50 rfl rfl
set_option maxRecDepth 20000 in
theorem ml12_454 : Cond.methodLink xR12 454 y12_drawsDeed ∈ xG := xG_k xT_9 46 rfl rfl
def flJ : List (Nat × Nat × Nat) := []
set_option maxRecDepth 20000 in
theorem flkJ : ∀ q ∈ flJ, xfl "java/lang/Integer" q := fun _ h => absurd h List.not_mem_nil
def clJ : List (Nat × Int32) := [(265, 1431655765), (266, 858993459), (267, 252645135)]
set_option maxRecDepth 20000 in
theorem clkJ : ∀ q ∈ clJ, Cond.constant "java/lang/Integer" q.1 q.2 ∈ xG := List.forall_mem_cons.mpr ⟨xG_k xT_4 182 rfl rfl, List.forall_mem_cons.mpr ⟨xG_k xT_4 183 rfl rfl, List.forall_mem_cons.mpr ⟨xG_k xT_4 184 rfl rfl, fun _ h => absurd h List.not_mem_nil⟩⟩⟩
def llJ : List (Nat × Int64) := []
set_option maxRecDepth 20000 in
theorem llkJ : ∀ q ∈ llJ, Cond.constantLong "java/lang/Integer" q.1 q.2 ∈ xG := fun _ h => absurd h List.not_mem_nil
def jlJ : List (Nat × Nat) := []
set_option maxRecDepth 20000 in
theorem jlkJ : ∀ q ∈ jlJ, xjd "java/lang/Integer" q := fun _ h => absurd h List.not_mem_nil
def flL : List (Nat × Nat × Nat) := []
set_option maxRecDepth 20000 in
theorem flkL : ∀ q ∈ flL, xfl "SilenceBallLaw" q := fun _ h => absurd h List.not_mem_nil
def clL : List (Nat × Int32) := []
set_option maxRecDepth 20000 in
theorem clkL : ∀ q ∈ clL, Cond.constant "SilenceBallLaw" q.1 q.2 ∈ xG := fun _ h => absurd h List.not_mem_nil
def llL : List (Nat × Int64) := [(19, 4294967295)]
set_option maxRecDepth 20000 in
theorem llkL : ∀ q ∈ llL, Cond.constantLong "SilenceBallLaw" q.1 q.2 ∈ xG := List.forall_mem_cons.mpr ⟨xG_k xT_9 66 rfl rfl, fun _ h => absurd h List.not_mem_nil⟩
def jlL : List (Nat × Nat) := []
set_option maxRecDepth 20000 in
theorem jlkL : ∀ q ∈ jlL, xjd "SilenceBallLaw" q := fun _ h => absurd h List.not_mem_nil
set_option maxRecDepth 20000 in
theorem mlL_21 : Cond.methodLink "SilenceBallLaw" 21 y11_feed ∈ xG := xG_k xT_2 185 rfl rfl
set_option maxRecDepth 20000 in
theorem mlL_25 : Cond.methodLink "SilenceBallLaw" 25 y12_feed ∈ xG := xG_k xT_6 129 rfl rfl
set_option maxRecDepth 20000 in
theorem mlL_26 : Cond.methodLink "SilenceBallLaw" 26 y11_room ∈ xG := xG_k xT_2 193 rfl rfl
set_option maxRecDepth 20000 in
theorem mlL_30 : Cond.methodLink "SilenceBallLaw" 30 y12_room ∈ xG := xG_k xT_7 54 rfl rfl
set_option maxRecDepth 20000 in
theorem mlL_31 : Cond.methodLink "SilenceBallLaw" 31 y11_evening ∈ xG := xG_k xT_4 10 rfl rfl
set_option maxRecDepth 20000 in
theorem mlL_34 : Cond.methodLink "SilenceBallLaw" 34 y12_evening ∈ xG := xG_k xT_7 169 rfl rfl
set_option maxRecDepth 20000 in
theorem mlL_35 : Cond.methodLink "SilenceBallLaw" 35 y11_guest ∈ xG := xG_k xT_4 37 rfl rfl
set_option maxRecDepth 20000 in
theorem mlL_39 : Cond.methodLink "SilenceBallLaw" 39 y12_guest ∈ xG := xG_k xT_7 184 rfl rfl
set_option maxRecDepth 20000 in
theorem mlL_40 : Cond.methodLink "SilenceBallLaw" 40 y11_belt ∈ xG := xG_k xT_4 45 rfl rfl
set_option maxRecDepth 20000 in
theorem mlL_43 : Cond.methodLink "SilenceBallLaw" 43 y12_belt ∈ xG := xG_k xT_7 196 rfl rfl
set_option maxRecDepth 20000 in
theorem mlL_44 : Cond.methodLink "SilenceBallLaw" 44 y11_man ∈ xG := xG_k xT_4 57 rfl rfl
set_option maxRecDepth 20000 in
theorem mlL_47 : Cond.methodLink "SilenceBallLaw" 47 y12_man ∈ xG := xG_k xT_7 212 rfl rfl
set_option maxRecDepth 20000 in
theorem mlL_48 : Cond.methodLink "SilenceBallLaw" 48 y11_cast ∈ xG := xG_k xT_4 70 rfl rfl
set_option maxRecDepth 20000 in
theorem mlL_52 : Cond.methodLink "SilenceBallLaw" 52 y12_cast ∈ xG := xG_k xT_7 232 rfl rfl
set_option maxRecDepth 20000 in
theorem mlL_53 : Cond.methodLink "SilenceBallLaw" 53 y11_ask ∈ xG := xG_k xT_4 115 rfl rfl
set_option maxRecDepth 20000 in
theorem mlL_56 : Cond.methodLink "SilenceBallLaw" 56 y12_ask ∈ xG := xG_k xT_8 28 rfl rfl
set_option maxRecDepth 20000 in
theorem mlL_57 : Cond.methodLink "SilenceBallLaw" 57 y11_stop ∈ xG := xG_k xT_4 127 rfl rfl
set_option maxRecDepth 20000 in
theorem mlL_61 : Cond.methodLink "SilenceBallLaw" 61 y12_stop ∈ xG := xG_k xT_8 32 rfl rfl
set_option maxRecDepth 20000 in
theorem mlL_62 : Cond.methodLink "SilenceBallLaw" 62 y11_minute ∈ xG := xG_k xT_4 139 rfl rfl
set_option maxRecDepth 20000 in
theorem mlL_65 : Cond.methodLink "SilenceBallLaw" 65 y12_minute ∈ xG := xG_k xT_8 44 rfl rfl
set_option maxRecDepth 20000 in
theorem mlL_66 : Cond.methodLink "SilenceBallLaw" 66 y11_undo ∈ xG := xG_k xT_4 206 rfl rfl
set_option maxRecDepth 20000 in
theorem mlL_70 : Cond.methodLink "SilenceBallLaw" 70 y12_undo ∈ xG := xG_k xT_8 82 rfl rfl
set_option maxRecDepth 20000 in
theorem mlL_71 : Cond.methodLink "SilenceBallLaw" 71 y11_judged ∈ xG := xG_k xT_4 214 rfl rfl
set_option maxRecDepth 20000 in
theorem mlL_74 : Cond.methodLink "SilenceBallLaw" 74 y12_judged ∈ xG := xG_k xT_8 86 rfl rfl
set_option maxRecDepth 20000 in
theorem mlL_75 : Cond.methodLink "SilenceBallLaw" 75 y11_under ∈ xG := xG_k xT_4 236 rfl rfl
set_option maxRecDepth 20000 in
theorem mlL_78 : Cond.methodLink "SilenceBallLaw" 78 y12_under ∈ xG := xG_k xT_8 90 rfl rfl
set_option maxRecDepth 20000 in
theorem mlL_79 : Cond.methodLink "SilenceBallLaw" 79 y11_cries ∈ xG := xG_k xT_5 1 rfl rfl
set_option maxRecDepth 20000 in
theorem mlL_82 : Cond.methodLink "SilenceBallLaw" 82 y12_cries ∈ xG := xG_k xT_8 98 rfl rfl
set_option maxRecDepth 20000 in
theorem mlL_83 : Cond.methodLink "SilenceBallLaw" 83 y11_later ∈ xG := xG_k xT_5 13 rfl rfl
set_option maxRecDepth 20000 in
theorem mlL_86 : Cond.methodLink "SilenceBallLaw" 86 y12_later ∈ xG := xG_k xT_8 110 rfl rfl
set_option maxRecDepth 20000 in
theorem mlL_87 : Cond.methodLink "SilenceBallLaw" 87 y11_over ∈ xG := xG_k xT_5 22 rfl rfl
set_option maxRecDepth 20000 in
theorem mlL_90 : Cond.methodLink "SilenceBallLaw" 90 y12_over ∈ xG := xG_k xT_8 118 rfl rfl
set_option maxRecDepth 20000 in
theorem mlL_91 : Cond.methodLink "SilenceBallLaw" 91 y11_sinks ∈ xG := xG_k xT_5 26 rfl rfl
set_option maxRecDepth 20000 in
theorem mlL_94 : Cond.methodLink "SilenceBallLaw" 94 y12_sinks ∈ xG := xG_k xT_8 122 rfl rfl
set_option maxRecDepth 20000 in
theorem mlL_95 : Cond.methodLink "SilenceBallLaw" 95 y11_first ∈ xG := xG_k xT_5 39 rfl rfl
set_option maxRecDepth 20000 in
theorem mlL_98 : Cond.methodLink "SilenceBallLaw" 98 y12_first ∈ xG := xG_k xT_8 134 rfl rfl
set_option maxRecDepth 20000 in
theorem mlL_99 : Cond.methodLink "SilenceBallLaw" 99 y11_home ∈ xG := xG_k xT_5 46 rfl rfl
set_option maxRecDepth 20000 in
theorem mlL_102 : Cond.methodLink "SilenceBallLaw" 102 y12_home ∈ xG := xG_k xT_8 138 rfl rfl
set_option maxRecDepth 20000 in
theorem mlL_103 : Cond.methodLink "SilenceBallLaw" 103 y11_quiet ∈ xG := xG_k xT_5 50 rfl rfl
set_option maxRecDepth 20000 in
theorem mlL_106 : Cond.methodLink "SilenceBallLaw" 106 y12_quiet ∈ xG := xG_k xT_8 142 rfl rfl
set_option maxRecDepth 20000 in
theorem mlL_107 : Cond.methodLink "SilenceBallLaw" 107 y11_when ∈ xG := xG_k xT_5 55 rfl rfl
set_option maxRecDepth 20000 in
theorem mlL_110 : Cond.methodLink "SilenceBallLaw" 110 y12_when ∈ xG := xG_k xT_8 146 rfl rfl
set_option maxRecDepth 20000 in
theorem mlL_111 : Cond.methodLink "SilenceBallLaw" 111 y11_lost ∈ xG := xG_k xT_5 60 rfl rfl
set_option maxRecDepth 20000 in
theorem mlL_114 : Cond.methodLink "SilenceBallLaw" 114 y12_lost ∈ xG := xG_k xT_8 150 rfl rfl
set_option maxRecDepth 20000 in
theorem mlL_115 : Cond.methodLink "SilenceBallLaw" 115 y11_fits ∈ xG := xG_k xT_5 64 rfl rfl
set_option maxRecDepth 20000 in
theorem mlL_118 : Cond.methodLink "SilenceBallLaw" 118 y12_fits ∈ xG := xG_k xT_8 154 rfl rfl
set_option maxRecDepth 20000 in
theorem mlL_119 : Cond.methodLink "SilenceBallLaw" 119 y11_could ∈ xG := xG_k xT_5 72 rfl rfl
set_option maxRecDepth 20000 in
theorem mlL_122 : Cond.methodLink "SilenceBallLaw" 122 y12_could ∈ xG := xG_k xT_8 162 rfl rfl
set_option maxRecDepth 20000 in
theorem mlL_123 : Cond.methodLink "SilenceBallLaw" 123 y11_best ∈ xG := xG_k xT_5 77 rfl rfl
set_option maxRecDepth 20000 in
theorem mlL_126 : Cond.methodLink "SilenceBallLaw" 126 y12_best ∈ xG := xG_k xT_8 166 rfl rfl
set_option maxRecDepth 20000 in
theorem mlL_127 : Cond.methodLink "SilenceBallLaw" 127 y11_with ∈ xG := xG_k xT_5 102 rfl rfl
set_option maxRecDepth 20000 in
theorem mlL_130 : Cond.methodLink "SilenceBallLaw" 130 y12_with ∈ xG := xG_k xT_8 178 rfl rfl
set_option maxRecDepth 20000 in
theorem mlL_131 : Cond.methodLink "SilenceBallLaw" 131 y11_need ∈ xG := xG_k xT_5 106 rfl rfl
set_option maxRecDepth 20000 in
theorem mlL_134 : Cond.methodLink "SilenceBallLaw" 134 y12_need ∈ xG := xG_k xT_8 182 rfl rfl
set_option maxRecDepth 20000 in
theorem mlL_135 : Cond.methodLink "SilenceBallLaw" 135 y11_latest ∈ xG := xG_k xT_5 127 rfl rfl
set_option maxRecDepth 20000 in
theorem mlL_138 : Cond.methodLink "SilenceBallLaw" 138 y12_latest ∈ xG := xG_k xT_8 202 rfl rfl
set_option maxRecDepth 20000 in
theorem mlL_139 : Cond.methodLink "SilenceBallLaw" 139 y11_enough ∈ xG := xG_k xT_5 136 rfl rfl
set_option maxRecDepth 20000 in
theorem mlL_142 : Cond.methodLink "SilenceBallLaw" 142 y12_enough ∈ xG := xG_k xT_8 194 rfl rfl
set_option maxRecDepth 20000 in
theorem mlL_143 : Cond.methodLink "SilenceBallLaw" 143 y11_near ∈ xG := xG_k xT_5 140 rfl rfl
set_option maxRecDepth 20000 in
theorem mlL_146 : Cond.methodLink "SilenceBallLaw" 146 y12_near ∈ xG := xG_k xT_8 222 rfl rfl
set_option maxRecDepth 20000 in
theorem mlL_147 : Cond.methodLink "SilenceBallLaw" 147 y11_gap ∈ xG := xG_k xT_5 145 rfl rfl
set_option maxRecDepth 20000 in
theorem mlL_150 : Cond.methodLink "SilenceBallLaw" 150 y12_gap ∈ xG := xG_k xT_8 226 rfl rfl
set_option maxRecDepth 20000 in
theorem mlL_151 : Cond.methodLink "SilenceBallLaw" 151 y11_row ∈ xG := xG_k xT_5 149 rfl rfl
set_option maxRecDepth 20000 in
theorem mlL_154 : Cond.methodLink "SilenceBallLaw" 154 y12_row ∈ xG := xG_k xT_8 230 rfl rfl
set_option maxRecDepth 20000 in
theorem mlL_155 : Cond.methodLink "SilenceBallLaw" 155 y11_dense ∈ xG := xG_k xT_5 158 rfl rfl
set_option maxRecDepth 20000 in
theorem mlL_158 : Cond.methodLink "SilenceBallLaw" 158 y12_dense ∈ xG := xG_k xT_9 2 rfl rfl
set_option maxRecDepth 20000 in
theorem mlL_159 : Cond.methodLink "SilenceBallLaw" 159 y11_tight ∈ xG := xG_k xT_5 162 rfl rfl
set_option maxRecDepth 20000 in
theorem mlL_162 : Cond.methodLink "SilenceBallLaw" 162 y12_tight ∈ xG := xG_k xT_9 6 rfl rfl
set_option maxRecDepth 20000 in
theorem mlL_163 : Cond.methodLink "SilenceBallLaw" 163 y11_spare ∈ xG := xG_k xT_5 167 rfl rfl
set_option maxRecDepth 20000 in
theorem mlL_166 : Cond.methodLink "SilenceBallLaw" 166 y12_spare ∈ xG := xG_k xT_8 206 rfl rfl
set_option maxRecDepth 20000 in
theorem mlL_167 : Cond.methodLink "SilenceBallLaw" 167 y11_save ∈ xG := xG_k xT_5 172 rfl rfl
set_option maxRecDepth 20000 in
theorem mlL_170 : Cond.methodLink "SilenceBallLaw" 170 y12_save ∈ xG := xG_k xT_8 210 rfl rfl
set_option maxRecDepth 20000 in
theorem mlL_171 : Cond.methodLink "SilenceBallLaw" 171 y11_worth ∈ xG := xG_k xT_5 180 rfl rfl
set_option maxRecDepth 20000 in
theorem mlL_174 : Cond.methodLink "SilenceBallLaw" 174 y12_worth ∈ xG := xG_k xT_8 218 rfl rfl
set_option maxRecDepth 20000 in
theorem mlL_175 : Cond.methodLink "SilenceBallLaw" 175 y11_see ∈ xG := xG_k xT_5 184 rfl rfl
set_option maxRecDepth 20000 in
theorem mlL_179 : Cond.methodLink "SilenceBallLaw" 179 y12_see ∈ xG := xG_k xT_9 10 rfl rfl
set_option maxRecDepth 20000 in
theorem mlL_180 : Cond.methodLink "SilenceBallLaw" 180 y11_holes ∈ xG := xG_k xT_5 192 rfl rfl
set_option maxRecDepth 20000 in
theorem mlL_183 : Cond.methodLink "SilenceBallLaw" 183 y12_holes ∈ xG := xG_k xT_9 14 rfl rfl
set_option maxRecDepth 20000 in
theorem mlL_184 : Cond.methodLink "SilenceBallLaw" 184 y11_look ∈ xG := xG_k xT_5 214 rfl rfl
set_option maxRecDepth 20000 in
theorem mlL_187 : Cond.methodLink "SilenceBallLaw" 187 y12_look ∈ xG := xG_k xT_9 26 rfl rfl
set_option maxRecDepth 20000 in
theorem mlL_188 : Cond.methodLink "SilenceBallLaw" 188 y11_chance ∈ xG := xG_k xT_5 234 rfl rfl
set_option maxRecDepth 20000 in
theorem mlL_192 : Cond.methodLink "SilenceBallLaw" 192 y12_chance ∈ xG := xG_k xT_9 30 rfl rfl
set_option maxRecDepth 20000 in
theorem mlL_193 : Cond.methodLink "SilenceBallLaw" 193 yL_rests ∈ xG := xG_k xT_6 50 rfl rfl
set_option maxRecDepth 20000 in
theorem mlL_198 : Cond.methodLink "SilenceBallLaw" 198 y12_rests ∈ xG := xG_k xT_9 35 rfl rfl
set_option maxRecDepth 20000 in
theorem mlL_199 : Cond.methodLink "SilenceBallLaw" 199 y12_thrown ∈ xG := xG_k xT_6 125 rfl rfl
set_option maxRecDepth 20000 in
theorem mlL_202 : Cond.methodLink "SilenceBallLaw" 202 y11_balls ∈ xG := xG_k xT_6 5 rfl rfl
set_option maxRecDepth 20000 in
theorem mlL_205 : Cond.methodLink "SilenceBallLaw" 205 y12_balls ∈ xG := xG_k xT_9 42 rfl rfl
set_option maxRecDepth 20000 in
theorem mlL_206 : Cond.methodLink "SilenceBallLaw" 206 y11_mark ∈ xG := xG_k xT_6 27 rfl rfl
set_option maxRecDepth 20000 in
theorem mlL_210 : Cond.methodLink "SilenceBallLaw" 210 y12_mark ∈ xG := xG_k xT_9 58 rfl rfl
set_option maxRecDepth 20000 in
theorem mlL_211 : Cond.methodLink "SilenceBallLaw" 211 y11_count ∈ xG := xG_k xT_6 45 rfl rfl
set_option maxRecDepth 20000 in
theorem mlL_214 : Cond.methodLink "SilenceBallLaw" 214 y12_count ∈ xG := xG_k xT_9 62 rfl rfl
set_option maxRecDepth 20000 in
theorem mf8_copyFrom : xmf y8_copyFrom prog_10_method_3_code 2 none := ⟨xG_k xT_4 108 rfl rfl, xG_k xT_1 7 rfl rfl, ⟨by decide +kernel, by decide +kernel⟩, by decide +kernel⟩
set_option maxRecDepth 20000 in
theorem mi8_copyFrom : Cond.instanceMethod y8_copyFrom ∈ xG := xG_k xT_4 106 rfl rfl
set_option maxRecDepth 20000 in
theorem me8_copyFrom : Cond.selects y8_copyFrom.cls y8_copyFrom y8_copyFrom ∈ xG := xG_k xT_4 107 rfl rfl
set_option maxRecDepth 20000 in
theorem mf10_begin : xmf y10_begin prog_12_method_5_code 1 none := ⟨xG_k xT_2 212 rfl rfl, xG_k xT_1 2 rfl rfl, ⟨by decide +kernel, by decide +kernel⟩, by decide +kernel⟩
set_option maxRecDepth 20000 in
theorem mi10_begin : Cond.instanceMethod y10_begin ∈ xG := xG_k xT_2 210 rfl rfl
set_option maxRecDepth 20000 in
theorem me10_begin : Cond.selects y10_begin.cls y10_begin y10_begin ∈ xG := xG_k xT_2 211 rfl rfl
set_option maxRecDepth 20000 in
theorem mf1_readLine : xmf y1_readLine prog_3_method_5_code 5 (some .boolean) := ⟨xG_k xT_4 22 rfl rfl, xG_k xT_1 6 rfl rfl, ⟨by decide +kernel, by decide +kernel⟩, by decide +kernel⟩
set_option maxRecDepth 20000 in
theorem mi1_readLine : Cond.instanceMethod y1_readLine ∈ xG := xG_k xT_4 21 rfl rfl
set_option maxRecDepth 20000 in
theorem me1_readLine : Cond.selects y1_readLine.cls y1_readLine y1_readLine ∈ xG := xG_s xV_2 2 rfl
set_option maxRecDepth 20000 in
theorem mf10_wrong : xmf y10_wrong prog_12_method_15_code 2 (some .boolean) := ⟨xG_k xT_3 110 rfl rfl, xG_k xT_1 2 rfl rfl, ⟨by decide +kernel, by decide +kernel⟩, by decide +kernel⟩
set_option maxRecDepth 20000 in
theorem mi10_wrong : Cond.instanceMethod y10_wrong ∈ xG := xG_k xT_3 108 rfl rfl
set_option maxRecDepth 20000 in
theorem me10_wrong : Cond.selects y10_wrong.cls y10_wrong y10_wrong ∈ xG := xG_k xT_3 109 rfl rfl
set_option maxRecDepth 20000 in
theorem mf10_advance : xmf y10_advance prog_12_method_6_code 2 none := ⟨xG_k xT_2 216 rfl rfl, xG_k xT_1 2 rfl rfl, ⟨by decide +kernel, by decide +kernel⟩, by decide +kernel⟩
set_option maxRecDepth 20000 in
theorem mi10_advance : Cond.instanceMethod y10_advance ∈ xG := xG_k xT_2 214 rfl rfl
set_option maxRecDepth 20000 in
theorem me10_advance : Cond.selects y10_advance.cls y10_advance y10_advance ∈ xG := xG_k xT_2 215 rfl rfl
set_option maxRecDepth 20000 in
theorem mf1_readName : xmf y1_readName prog_3_method_6_code 6 (some .boolean) := ⟨xG_k xT_4 28 rfl rfl, xG_k xT_1 6 rfl rfl, ⟨by decide +kernel, by decide +kernel⟩, by decide +kernel⟩
set_option maxRecDepth 20000 in
theorem mi1_readName : Cond.instanceMethod y1_readName ∈ xG := xG_k xT_4 27 rfl rfl
set_option maxRecDepth 20000 in
theorem me1_readName : Cond.selects y1_readName.cls y1_readName y1_readName ∈ xG := xG_s xV_2 3 rfl
set_option maxRecDepth 20000 in
theorem mf10_take : xmf y10_take prog_12_method_14_code 2 (some .boolean) := ⟨xG_k xT_3 147 rfl rfl, xG_k xT_1 2 rfl rfl, ⟨by decide +kernel, by decide +kernel⟩, by decide +kernel⟩
set_option maxRecDepth 20000 in
theorem mi10_take : Cond.instanceMethod y10_take ∈ xG := xG_k xT_3 145 rfl rfl
set_option maxRecDepth 20000 in
theorem me10_take : Cond.selects y10_take.cls y10_take y10_take ∈ xG := xG_k xT_3 146 rfl rfl
set_option maxRecDepth 20000 in
theorem mf10_isName : xmf y10_isName prog_12_method_12_code 1 (some .boolean) := ⟨xG_k xT_3 119 rfl rfl, xG_k xT_1 2 rfl rfl, ⟨by decide +kernel, by decide +kernel⟩, by decide +kernel⟩
set_option maxRecDepth 20000 in
theorem mi10_isName : Cond.instanceMethod y10_isName ∈ xG := xG_k xT_3 117 rfl rfl
set_option maxRecDepth 20000 in
theorem me10_isName : Cond.selects y10_isName.cls y10_isName y10_isName ∈ xG := xG_k xT_3 118 rfl rfl
set_option maxRecDepth 20000 in
theorem mf2_find : xmf y2_find prog_4_method_8_code 5 (some .int) := ⟨xG_k xT_3 131 rfl rfl, xG_k xT_1 3 rfl rfl, ⟨by decide +kernel, by decide +kernel⟩, by decide +kernel⟩
set_option maxRecDepth 20000 in
theorem ms2_find : Cond.static y2_find ∈ xG := xG_k xT_3 130 rfl rfl
set_option maxRecDepth 20000 in
theorem mf8_begin : xmf y8_begin prog_10_method_2_code 2 none := ⟨xG_k xT_3 228 rfl rfl, xG_k xT_1 7 rfl rfl, ⟨by decide +kernel, by decide +kernel⟩, by decide +kernel⟩
set_option maxRecDepth 20000 in
theorem mi8_begin : Cond.instanceMethod y8_begin ∈ xG := xG_k xT_3 226 rfl rfl
set_option maxRecDepth 20000 in
theorem me8_begin : Cond.selects y8_begin.cls y8_begin y8_begin ∈ xG := xG_k xT_3 227 rfl rfl
set_option maxRecDepth 20000 in
theorem mf1_play : xmf y1_play prog_3_method_8_code 4 (some .int) := ⟨xG_k xT_4 226 rfl rfl, xG_k xT_1 6 rfl rfl, ⟨by decide +kernel, by decide +kernel⟩, by decide +kernel⟩
set_option maxRecDepth 20000 in
theorem mi1_play : Cond.instanceMethod y1_play ∈ xG := xG_k xT_4 225 rfl rfl
set_option maxRecDepth 20000 in
theorem me1_play : Cond.selects y1_play.cls y1_play y1_play ∈ xG := xG_s xV_2 10 rfl
set_option maxRecDepth 20000 in
theorem mf8_whoIs : xmf y8_whoIs prog_10_method_6_code 4 (some .int) := ⟨xG_k xT_4 178 rfl rfl, xG_k xT_1 7 rfl rfl, ⟨by decide +kernel, by decide +kernel⟩, by decide +kernel⟩
set_option maxRecDepth 20000 in
theorem mi8_whoIs : Cond.instanceMethod y8_whoIs ∈ xG := xG_k xT_4 176 rfl rfl
set_option maxRecDepth 20000 in
theorem me8_whoIs : Cond.selects y8_whoIs.cls y8_whoIs y8_whoIs ∈ xG := xG_k xT_4 177 rfl rfl
set_option maxRecDepth 20000 in
theorem mfJ_bitCount : xmf yJ_bitCount prog_20_method_49_code 1 (some .int) := ⟨xG_k xT_4 181 rfl rfl, xG_k xT_1 21 rfl rfl, ⟨by decide +kernel, by decide +kernel⟩, by decide +kernel⟩
set_option maxRecDepth 20000 in
theorem msJ_bitCount : Cond.static yJ_bitCount ∈ xG := xG_k xT_4 180 rfl rfl
set_option maxRecDepth 20000 in
theorem mf8_pass : xmf y8_pass prog_10_method_24_code 3 (some .int) := ⟨xG_k xT_4 146 rfl rfl, xG_k xT_1 7 rfl rfl, ⟨by decide +kernel, by decide +kernel⟩, by decide +kernel⟩
set_option maxRecDepth 20000 in
theorem mi8_pass : Cond.instanceMethod y8_pass ∈ xG := xG_k xT_4 144 rfl rfl
set_option maxRecDepth 20000 in
theorem me8_pass : Cond.selects y8_pass.cls y8_pass y8_pass ∈ xG := xG_k xT_4 145 rfl rfl
set_option maxRecDepth 20000 in
theorem mf8_canAsk : xmf y8_canAsk prog_10_method_20_code 1 (some .boolean) := ⟨xG_k xT_4 122 rfl rfl, xG_k xT_1 7 rfl rfl, ⟨by decide +kernel, by decide +kernel⟩, by decide +kernel⟩
set_option maxRecDepth 20000 in
theorem mi8_canAsk : Cond.instanceMethod y8_canAsk ∈ xG := xG_k xT_4 120 rfl rfl
set_option maxRecDepth 20000 in
theorem me8_canAsk : Cond.selects y8_canAsk.cls y8_canAsk y8_canAsk ∈ xG := xG_k xT_4 121 rfl rfl
set_option maxRecDepth 20000 in
theorem mf8_openGap : xmf y8_openGap prog_10_method_21_code 1 none := ⟨xG_k xT_4 126 rfl rfl, xG_k xT_1 7 rfl rfl, ⟨by decide +kernel, by decide +kernel⟩, by decide +kernel⟩
set_option maxRecDepth 20000 in
theorem mi8_openGap : Cond.instanceMethod y8_openGap ∈ xG := xG_k xT_4 124 rfl rfl
set_option maxRecDepth 20000 in
theorem me8_openGap : Cond.selects y8_openGap.cls y8_openGap y8_openGap ∈ xG := xG_k xT_4 125 rfl rfl
set_option maxRecDepth 20000 in
theorem mf8_canStop : xmf y8_canStop prog_10_method_22_code 2 (some .boolean) := ⟨xG_k xT_4 134 rfl rfl, xG_k xT_1 7 rfl rfl, ⟨by decide +kernel, by decide +kernel⟩, by decide +kernel⟩
set_option maxRecDepth 20000 in
theorem mi8_canStop : Cond.instanceMethod y8_canStop ∈ xG := xG_k xT_4 132 rfl rfl
set_option maxRecDepth 20000 in
theorem me8_canStop : Cond.selects y8_canStop.cls y8_canStop y8_canStop ∈ xG := xG_k xT_4 133 rfl rfl
set_option maxRecDepth 20000 in
theorem mf8_closeGap : xmf y8_closeGap prog_10_method_23_code 2 none := ⟨xG_k xT_4 138 rfl rfl, xG_k xT_1 7 rfl rfl, ⟨by decide +kernel, by decide +kernel⟩, by decide +kernel⟩
set_option maxRecDepth 20000 in
theorem mi8_closeGap : Cond.instanceMethod y8_closeGap ∈ xG := xG_k xT_4 136 rfl rfl
set_option maxRecDepth 20000 in
theorem me8_closeGap : Cond.selects y8_closeGap.cls y8_closeGap y8_closeGap ∈ xG := xG_k xT_4 137 rfl rfl
set_option maxRecDepth 20000 in
theorem mf8_canCast : xmf y8_canCast prog_10_method_18_code 4 (some .boolean) := ⟨xG_k xT_4 77 rfl rfl, xG_k xT_1 7 rfl rfl, ⟨by decide +kernel, by decide +kernel⟩, by decide +kernel⟩
set_option maxRecDepth 20000 in
theorem mi8_canCast : Cond.instanceMethod y8_canCast ∈ xG := xG_k xT_4 75 rfl rfl
set_option maxRecDepth 20000 in
theorem me8_canCast : Cond.selects y8_canCast.cls y8_canCast y8_canCast ∈ xG := xG_k xT_4 76 rfl rfl
set_option maxRecDepth 20000 in
theorem mf8_giveBelt : xmf y8_giveBelt prog_10_method_19_code 4 none := ⟨xG_k xT_4 114 rfl rfl, xG_k xT_1 7 rfl rfl, ⟨by decide +kernel, by decide +kernel⟩, by decide +kernel⟩
set_option maxRecDepth 20000 in
theorem mi8_giveBelt : Cond.instanceMethod y8_giveBelt ∈ xG := xG_k xT_4 112 rfl rfl
set_option maxRecDepth 20000 in
theorem me8_giveBelt : Cond.selects y8_giveBelt.cls y8_giveBelt y8_giveBelt ∈ xG := xG_k xT_4 113 rfl rfl
set_option maxRecDepth 20000 in
theorem mf4_clear : xmf y4_clear prog_6_method_2_code 1 none := ⟨xG_k xT_2 208 rfl rfl, xG_k xT_1 4 rfl rfl, ⟨by decide +kernel, by decide +kernel⟩, by decide +kernel⟩
set_option maxRecDepth 20000 in
theorem mi4_clear : Cond.instanceMethod y4_clear ∈ xG := xG_k xT_2 206 rfl rfl
set_option maxRecDepth 20000 in
theorem me4_clear : Cond.selects y4_clear.cls y4_clear y4_clear ∈ xG := xG_k xT_2 207 rfl rfl
set_option maxRecDepth 20000 in
theorem mf4_copyFrom : xmf y4_copyFrom prog_6_method_3_code 2 none := ⟨xG_k xT_3 223 rfl rfl, xG_k xT_1 4 rfl rfl, ⟨by decide +kernel, by decide +kernel⟩, by decide +kernel⟩
set_option maxRecDepth 20000 in
theorem mi4_copyFrom : Cond.instanceMethod y4_copyFrom ∈ xG := xG_k xT_3 221 rfl rfl
set_option maxRecDepth 20000 in
theorem me4_copyFrom : Cond.selects y4_copyFrom.cls y4_copyFrom y4_copyFrom ∈ xG := xG_k xT_3 222 rfl rfl
set_option maxRecDepth 20000 in
theorem mf2_isBorne : xmf y2_isBorne prog_4_method_12_code 3 (some .boolean) := ⟨xG_k xT_4 166 rfl rfl, xG_k xT_1 3 rfl rfl, ⟨by decide +kernel, by decide +kernel⟩, by decide +kernel⟩
set_option maxRecDepth 20000 in
theorem mi2_isBorne : Cond.instanceMethod y2_isBorne ∈ xG := xG_k xT_4 164 rfl rfl
set_option maxRecDepth 20000 in
theorem me2_isBorne : Cond.selects y2_isBorne.cls y2_isBorne y2_isBorne ∈ xG := xG_k xT_4 165 rfl rfl
set_option maxRecDepth 20000 in
theorem mf2_beltsFrom : xmf y2_beltsFrom prog_4_method_16_code 5 (some .int) := ⟨xG_k xT_5 118 rfl rfl, xG_k xT_1 3 rfl rfl, ⟨by decide +kernel, by decide +kernel⟩, by decide +kernel⟩
set_option maxRecDepth 20000 in
theorem mi2_beltsFrom : Cond.instanceMethod y2_beltsFrom ∈ xG := xG_k xT_5 117 rfl rfl
set_option maxRecDepth 20000 in
theorem me2_beltsFrom : Cond.selects y2_beltsFrom.cls y2_beltsFrom y2_beltsFrom ∈ xG := xG_s xV_3 0 rfl
set_option maxRecDepth 20000 in
theorem mf2_guestsFrom : xmf y2_guestsFrom prog_4_method_17_code 5 (some .int) := ⟨xG_k xT_5 122 rfl rfl, xG_k xT_1 3 rfl rfl, ⟨by decide +kernel, by decide +kernel⟩, by decide +kernel⟩
set_option maxRecDepth 20000 in
theorem mi2_guestsFrom : Cond.instanceMethod y2_guestsFrom ∈ xG := xG_k xT_5 121 rfl rfl
set_option maxRecDepth 20000 in
theorem me2_guestsFrom : Cond.selects y2_guestsFrom.cls y2_guestsFrom y2_guestsFrom ∈ xG := xG_s xV_3 1 rfl
set_option maxRecDepth 20000 in
theorem mf9_allows : xmf y9_allows prog_11_method_5_code 4 (some .boolean) := ⟨xG_k xT_5 209 rfl rfl, xG_k xT_1 10 rfl rfl, ⟨by decide +kernel, by decide +kernel⟩, by decide +kernel⟩
set_option maxRecDepth 20000 in
theorem mi9_allows : Cond.instanceMethod y9_allows ∈ xG := xG_k xT_5 207 rfl rfl
set_option maxRecDepth 20000 in
theorem me9_allows : Cond.selects y9_allows.cls y9_allows y9_allows ∈ xG := xG_k xT_5 208 rfl rfl
set_option maxRecDepth 20000 in
theorem mf3_possible : xmf y3_possible prog_5_method_4_code 4 (some .int) := ⟨xG_k xT_5 205 rfl rfl, xG_k xT_1 11 rfl rfl, ⟨by decide +kernel, by decide +kernel⟩, by decide +kernel⟩
set_option maxRecDepth 20000 in
theorem mi3_possible : Cond.instanceMethod y3_possible ∈ xG := xG_k xT_5 203 rfl rfl
set_option maxRecDepth 20000 in
theorem me3_possible : Cond.selects y3_possible.cls y3_possible y3_possible ∈ xG := xG_k xT_5 204 rfl rfl
set_option maxRecDepth 20000 in
theorem mf3_mostAlike : xmf y3_mostAlike prog_5_method_6_code 5 (some .int) := ⟨xG_k xT_5 227 rfl rfl, xG_k xT_1 11 rfl rfl, ⟨by decide +kernel, by decide +kernel⟩, by decide +kernel⟩
set_option maxRecDepth 20000 in
theorem mi3_mostAlike : Cond.instanceMethod y3_mostAlike ∈ xG := xG_k xT_5 226 rfl rfl
set_option maxRecDepth 20000 in
theorem me3_mostAlike : Cond.selects y3_mostAlike.cls y3_mostAlike y3_mostAlike ∈ xG := xG_s xV_3 3 rfl
set_option maxRecDepth 20000 in
theorem mf3_depthBehind : xmf y3_depthBehind prog_5_method_3_code 4 (some .int) := ⟨xG_k xT_5 213 rfl rfl, xG_k xT_1 11 rfl rfl, ⟨by decide +kernel, by decide +kernel⟩, by decide +kernel⟩
set_option maxRecDepth 20000 in
theorem mi3_depthBehind : Cond.instanceMethod y3_depthBehind ∈ xG := xG_k xT_5 211 rfl rfl
set_option maxRecDepth 20000 in
theorem me3_depthBehind : Cond.selects y3_depthBehind.cls y3_depthBehind y3_depthBehind ∈ xG := xG_k xT_5 212 rfl rfl
set_option maxRecDepth 20000 in
theorem mf3_manyAsDeep : xmf y3_manyAsDeep prog_5_method_7_code 6 (some .int) := ⟨xG_k xT_5 232 rfl rfl, xG_k xT_1 11 rfl rfl, ⟨by decide +kernel, by decide +kernel⟩, by decide +kernel⟩
set_option maxRecDepth 20000 in
theorem mi3_manyAsDeep : Cond.instanceMethod y3_manyAsDeep ∈ xG := xG_k xT_5 231 rfl rfl
set_option maxRecDepth 20000 in
theorem me3_manyAsDeep : Cond.selects y3_manyAsDeep.cls y3_manyAsDeep y3_manyAsDeep ∈ xG := xG_s xV_3 4 rfl
set_option maxRecDepth 20000 in
theorem mf4_add : xmf y4_add prog_6_method_6_code 2 none := ⟨xG_k xT_3 204 rfl rfl, xG_k xT_1 4 rfl rfl, ⟨by decide +kernel, by decide +kernel⟩, by decide +kernel⟩
set_option maxRecDepth 20000 in
theorem mi4_add : Cond.instanceMethod y4_add ∈ xG := xG_k xT_3 203 rfl rfl
set_option maxRecDepth 20000 in
theorem me4_add : Cond.selects y4_add.cls y4_add y4_add ∈ xG := xG_s xV_2 0 rfl
set_option maxRecDepth 20000 in
theorem mf4_push : xmf y4_push prog_6_method_9_code 2 none := ⟨xG_k xT_4 196 rfl rfl, xG_k xT_1 4 rfl rfl, ⟨by decide +kernel, by decide +kernel⟩, by decide +kernel⟩
set_option maxRecDepth 20000 in
theorem mi4_push : Cond.instanceMethod y4_push ∈ xG := xG_k xT_4 195 rfl rfl
set_option maxRecDepth 20000 in
theorem me4_push : Cond.selects y4_push.cls y4_push y4_push ∈ xG := xG_s xV_2 8 rfl
set_option maxRecDepth 20000 in
theorem mf4_pop : xmf y4_pop prog_6_method_10_code 1 (some .int) := ⟨xG_k xT_4 200 rfl rfl, xG_k xT_1 4 rfl rfl, ⟨by decide +kernel, by decide +kernel⟩, by decide +kernel⟩
set_option maxRecDepth 20000 in
theorem mi4_pop : Cond.instanceMethod y4_pop ∈ xG := xG_k xT_4 199 rfl rfl
set_option maxRecDepth 20000 in
theorem me4_pop : Cond.selects y4_pop.cls y4_pop y4_pop ∈ xG := xG_s xV_2 9 rfl
set_option maxRecDepth 20000 in
theorem mf4_joined : xmf y4_joined prog_6_method_8_code 3 (some .int) := ⟨xG_k xT_4 203 rfl rfl, xG_k xT_1 4 rfl rfl, ⟨by decide +kernel, by decide +kernel⟩, by decide +kernel⟩
set_option maxRecDepth 20000 in
theorem ms4_joined : Cond.static y4_joined ∈ xG := xG_k xT_4 202 rfl rfl
set_option maxRecDepth 20000 in
theorem mf9_copyFrom : xmf y9_copyFrom prog_11_method_3_code 2 none := ⟨xG_k xT_6 39 rfl rfl, xG_k xT_1 10 rfl rfl, ⟨by decide +kernel, by decide +kernel⟩, by decide +kernel⟩
set_option maxRecDepth 20000 in
theorem mi9_copyFrom : Cond.instanceMethod y9_copyFrom ∈ xG := xG_k xT_6 37 rfl rfl
set_option maxRecDepth 20000 in
theorem me9_copyFrom : Cond.selects y9_copyFrom.cls y9_copyFrom y9_copyFrom ∈ xG := xG_k xT_6 38 rfl rfl
set_option maxRecDepth 20000 in
theorem mf6_chooseGuests : xmf y6_chooseGuests prog_8_method_3_code 4 none := ⟨xG_k xT_5 88 rfl rfl, xG_k xT_1 12 rfl rfl, ⟨by decide +kernel, by decide +kernel⟩, by decide +kernel⟩
set_option maxRecDepth 20000 in
theorem mi6_chooseGuests : Cond.instanceMethod y6_chooseGuests ∈ xG := xG_k xT_5 87 rfl rfl
set_option maxRecDepth 20000 in
theorem me6_chooseGuests : Cond.selects y6_chooseGuests.cls y6_chooseGuests y6_chooseGuests ∈ xG := xG_s xV_2 13 rfl
set_option maxRecDepth 20000 in
theorem mf8_wall : xmf y8_wall prog_10_method_10_code 3 (some .int) := ⟨xG_k xT_4 188 rfl rfl, xG_k xT_1 7 rfl rfl, ⟨by decide +kernel, by decide +kernel⟩, by decide +kernel⟩
set_option maxRecDepth 20000 in
theorem mi8_wall : Cond.instanceMethod y8_wall ∈ xG := xG_k xT_4 186 rfl rfl
set_option maxRecDepth 20000 in
theorem me8_wall : Cond.selects y8_wall.cls y8_wall y8_wall ∈ xG := xG_k xT_4 187 rfl rfl
set_option maxRecDepth 20000 in
theorem mf6_chooseBelts : xmf y6_chooseBelts prog_8_method_4_code 4 (some .boolean) := ⟨xG_k xT_5 94 rfl rfl, xG_k xT_1 12 rfl rfl, ⟨by decide +kernel, by decide +kernel⟩, by decide +kernel⟩
set_option maxRecDepth 20000 in
theorem mi6_chooseBelts : Cond.instanceMethod y6_chooseBelts ∈ xG := xG_k xT_5 93 rfl rfl
set_option maxRecDepth 20000 in
theorem me6_chooseBelts : Cond.selects y6_chooseBelts.cls y6_chooseBelts y6_chooseBelts ∈ xG := xG_s xV_2 14 rfl
set_option maxRecDepth 20000 in
theorem mf6_keepTried : xmf y6_keepTried prog_8_method_5_code 3 none := ⟨xG_k xT_5 99 rfl rfl, xG_k xT_1 12 rfl rfl, ⟨by decide +kernel, by decide +kernel⟩, by decide +kernel⟩
set_option maxRecDepth 20000 in
theorem mi6_keepTried : Cond.instanceMethod y6_keepTried ∈ xG := xG_k xT_5 98 rfl rfl
set_option maxRecDepth 20000 in
theorem me6_keepTried : Cond.selects y6_keepTried.cls y6_keepTried y6_keepTried ∈ xG := xG_s xV_2 15 rfl
set_option maxRecDepth 20000 in
theorem mf8_isCrying : xmf y8_isCrying prog_10_method_14_code 2 (some .boolean) := ⟨xG_k xT_5 12 rfl rfl, xG_k xT_1 7 rfl rfl, ⟨by decide +kernel, by decide +kernel⟩, by decide +kernel⟩
set_option maxRecDepth 20000 in
theorem mi8_isCrying : Cond.instanceMethod y8_isCrying ∈ xG := xG_k xT_5 10 rfl rfl
set_option maxRecDepth 20000 in
theorem me8_isCrying : Cond.selects y8_isCrying.cls y8_isCrying y8_isCrying ∈ xG := xG_k xT_5 11 rfl rfl
set_option maxRecDepth 20000 in
theorem mf8_canReach : xmf y8_canReach prog_10_method_17_code 3 (some .boolean) := ⟨xG_k xT_4 87 rfl rfl, xG_k xT_1 7 rfl rfl, ⟨by decide +kernel, by decide +kernel⟩, by decide +kernel⟩
set_option maxRecDepth 20000 in
theorem mi8_canReach : Cond.instanceMethod y8_canReach ∈ xG := xG_k xT_4 85 rfl rfl
set_option maxRecDepth 20000 in
theorem me8_canReach : Cond.selects y8_canReach.cls y8_canReach y8_canReach ∈ xG := xG_k xT_4 86 rfl rfl
set_option maxRecDepth 20000 in
theorem mf2_clear : xmf y2_clear prog_4_method_2_code 1 none := ⟨xG_k xT_2 204 rfl rfl, xG_k xT_1 3 rfl rfl, ⟨by decide +kernel, by decide +kernel⟩, by decide +kernel⟩
set_option maxRecDepth 20000 in
theorem mi2_clear : Cond.instanceMethod y2_clear ∈ xG := xG_k xT_2 202 rfl rfl
set_option maxRecDepth 20000 in
theorem me2_clear : Cond.selects y2_clear.cls y2_clear y2_clear ∈ xG := xG_k xT_2 203 rfl rfl
set_option maxRecDepth 20000 in
theorem mf7_readGuest : xmf y7_readGuest prog_9_method_3_code 3 (some .boolean) := ⟨xG_k xT_3 106 rfl rfl, xG_k xT_1 5 rfl rfl, ⟨by decide +kernel, by decide +kernel⟩, by decide +kernel⟩
set_option maxRecDepth 20000 in
theorem mi7_readGuest : Cond.instanceMethod y7_readGuest ∈ xG := xG_k xT_3 105 rfl rfl
set_option maxRecDepth 20000 in
theorem me7_readGuest : Cond.selects y7_readGuest.cls y7_readGuest y7_readGuest ∈ xG := xG_s xV_1 1 rfl
set_option maxRecDepth 20000 in
theorem mf7_readBelt : xmf y7_readBelt prog_9_method_4_code 3 (some .boolean) := ⟨xG_k xT_3 155 rfl rfl, xG_k xT_1 5 rfl rfl, ⟨by decide +kernel, by decide +kernel⟩, by decide +kernel⟩
set_option maxRecDepth 20000 in
theorem mi7_readBelt : Cond.instanceMethod y7_readBelt ∈ xG := xG_k xT_3 154 rfl rfl
set_option maxRecDepth 20000 in
theorem me7_readBelt : Cond.selects y7_readBelt.cls y7_readBelt y7_readBelt ∈ xG := xG_s xV_1 5 rfl
set_option maxRecDepth 20000 in
theorem mf7_readMan : xmf y7_readMan prog_9_method_5_code 3 (some .boolean) := ⟨xG_k xT_3 159 rfl rfl, xG_k xT_1 5 rfl rfl, ⟨by decide +kernel, by decide +kernel⟩, by decide +kernel⟩
set_option maxRecDepth 20000 in
theorem mi7_readMan : Cond.instanceMethod y7_readMan ∈ xG := xG_k xT_3 158 rfl rfl
set_option maxRecDepth 20000 in
theorem me7_readMan : Cond.selects y7_readMan.cls y7_readMan y7_readMan ∈ xG := xG_s xV_1 6 rfl
set_option maxRecDepth 20000 in
theorem mf7_readGaps : xmf y7_readGaps prog_9_method_6_code 1 (some .boolean) := ⟨xG_k xT_3 163 rfl rfl, xG_k xT_1 5 rfl rfl, ⟨by decide +kernel, by decide +kernel⟩, by decide +kernel⟩
set_option maxRecDepth 20000 in
theorem mi7_readGaps : Cond.instanceMethod y7_readGaps ∈ xG := xG_k xT_3 162 rfl rfl
set_option maxRecDepth 20000 in
theorem me7_readGaps : Cond.selects y7_readGaps.cls y7_readGaps y7_readGaps ∈ xG := xG_s xV_1 7 rfl
set_option maxRecDepth 20000 in
theorem mf7_readWater : xmf y7_readWater prog_9_method_7_code 1 (some .boolean) := ⟨xG_k xT_3 167 rfl rfl, xG_k xT_1 5 rfl rfl, ⟨by decide +kernel, by decide +kernel⟩, by decide +kernel⟩
set_option maxRecDepth 20000 in
theorem mi7_readWater : Cond.instanceMethod y7_readWater ∈ xG := xG_k xT_3 166 rfl rfl
set_option maxRecDepth 20000 in
theorem me7_readWater : Cond.selects y7_readWater.cls y7_readWater y7_readWater ∈ xG := xG_s xV_1 8 rfl
set_option maxRecDepth 20000 in
theorem mf7_readLaw : xmf y7_readLaw prog_9_method_8_code 1 (some .boolean) := ⟨xG_k xT_3 171 rfl rfl, xG_k xT_1 5 rfl rfl, ⟨by decide +kernel, by decide +kernel⟩, by decide +kernel⟩
set_option maxRecDepth 20000 in
theorem mi7_readLaw : Cond.instanceMethod y7_readLaw ∈ xG := xG_k xT_3 170 rfl rfl
set_option maxRecDepth 20000 in
theorem me7_readLaw : Cond.selects y7_readLaw.cls y7_readLaw y7_readLaw ∈ xG := xG_s xV_1 9 rfl
set_option maxRecDepth 20000 in
theorem mf7_readName : xmf y7_readName prog_9_method_9_code 3 (some .boolean) := ⟨xG_k xT_3 115 rfl rfl, xG_k xT_1 5 rfl rfl, ⟨by decide +kernel, by decide +kernel⟩, by decide +kernel⟩
set_option maxRecDepth 20000 in
theorem mi7_readName : Cond.instanceMethod y7_readName ∈ xG := xG_k xT_3 114 rfl rfl
set_option maxRecDepth 20000 in
theorem me7_readName : Cond.selects y7_readName.cls y7_readName y7_readName ∈ xG := xG_s xV_1 2 rfl
set_option maxRecDepth 20000 in
theorem mf7_readKind : xmf y7_readKind prog_9_method_10_code 3 (some .boolean) := ⟨xG_k xT_3 135 rfl rfl, xG_k xT_1 5 rfl rfl, ⟨by decide +kernel, by decide +kernel⟩, by decide +kernel⟩
set_option maxRecDepth 20000 in
theorem mi7_readKind : Cond.instanceMethod y7_readKind ∈ xG := xG_k xT_3 134 rfl rfl
set_option maxRecDepth 20000 in
theorem me7_readKind : Cond.selects y7_readKind.cls y7_readKind y7_readKind ∈ xG := xG_s xV_1 3 rfl
set_option maxRecDepth 20000 in
theorem mf7_readMeasure : xmf y7_readMeasure prog_9_method_11_code 6 (some .boolean) := ⟨xG_k xT_3 139 rfl rfl, xG_k xT_1 5 rfl rfl, ⟨by decide +kernel, by decide +kernel⟩, by decide +kernel⟩
set_option maxRecDepth 20000 in
theorem mi7_readMeasure : Cond.instanceMethod y7_readMeasure ∈ xG := xG_k xT_3 138 rfl rfl
set_option maxRecDepth 20000 in
theorem me7_readMeasure : Cond.selects y7_readMeasure.cls y7_readMeasure y7_readMeasure ∈ xG := xG_s xV_1 4 rfl
set_option maxRecDepth 20000 in
theorem mf2_addGuest : xmf y2_addGuest prog_4_method_4_code 1 none := ⟨xG_k xT_3 151 rfl rfl, xG_k xT_1 3 rfl rfl, ⟨by decide +kernel, by decide +kernel⟩, by decide +kernel⟩
set_option maxRecDepth 20000 in
theorem mi2_addGuest : Cond.instanceMethod y2_addGuest ∈ xG := xG_k xT_3 149 rfl rfl
set_option maxRecDepth 20000 in
theorem me2_addGuest : Cond.selects y2_addGuest.cls y2_addGuest y2_addGuest ∈ xG := xG_k xT_3 150 rfl rfl
set_option maxRecDepth 20000 in
theorem mf10_isNumber : xmf y10_isNumber prog_12_method_13_code 3 (some .boolean) := ⟨xG_k xT_3 143 rfl rfl, xG_k xT_1 2 rfl rfl, ⟨by decide +kernel, by decide +kernel⟩, by decide +kernel⟩
set_option maxRecDepth 20000 in
theorem mi10_isNumber : Cond.instanceMethod y10_isNumber ∈ xG := xG_k xT_3 141 rfl rfl
set_option maxRecDepth 20000 in
theorem me10_isNumber : Cond.selects y10_isNumber.cls y10_isNumber y10_isNumber ∈ xG := xG_k xT_3 142 rfl rfl
set_option maxRecDepth 20000 in
theorem mf7_readE : xmf y7_readE prog_9_method_12_code 5 (some .boolean) := ⟨xG_k xT_3 175 rfl rfl, xG_k xT_1 5 rfl rfl, ⟨by decide +kernel, by decide +kernel⟩, by decide +kernel⟩
set_option maxRecDepth 20000 in
theorem mi7_readE : Cond.instanceMethod y7_readE ∈ xG := xG_k xT_3 174 rfl rfl
set_option maxRecDepth 20000 in
theorem me7_readE : Cond.selects y7_readE.cls y7_readE y7_readE ∈ xG := xG_s xV_1 10 rfl
set_option maxRecDepth 20000 in
theorem mf2_isTold : xmf y2_isTold prog_4_method_9_code 3 (some .boolean) := ⟨xG_k xT_3 128 rfl rfl, xG_k xT_1 3 rfl rfl, ⟨by decide +kernel, by decide +kernel⟩, by decide +kernel⟩
set_option maxRecDepth 20000 in
theorem mi2_isTold : Cond.instanceMethod y2_isTold ∈ xG := xG_k xT_3 126 rfl rfl
set_option maxRecDepth 20000 in
theorem me2_isTold : Cond.selects y2_isTold.cls y2_isTold y2_isTold ∈ xG := xG_k xT_3 127 rfl rfl
set_option maxRecDepth 20000 in
theorem mf7_readTest : xmf y7_readTest prog_9_method_13_code 3 (some .boolean) := ⟨xG_k xT_3 179 rfl rfl, xG_k xT_1 5 rfl rfl, ⟨by decide +kernel, by decide +kernel⟩, by decide +kernel⟩
set_option maxRecDepth 20000 in
theorem mi7_readTest : Cond.instanceMethod y7_readTest ∈ xG := xG_k xT_3 178 rfl rfl
set_option maxRecDepth 20000 in
theorem me7_readTest : Cond.selects y7_readTest.cls y7_readTest y7_readTest ∈ xG := xG_s xV_1 11 rfl
set_option maxRecDepth 20000 in
theorem mf7_write : xmf y7_write prog_9_method_17_code 2 (some .boolean) := ⟨xG_k xT_3 196 rfl rfl, xG_k xT_1 5 rfl rfl, ⟨by decide +kernel, by decide +kernel⟩, by decide +kernel⟩
set_option maxRecDepth 20000 in
theorem mi7_write : Cond.instanceMethod y7_write ∈ xG := xG_k xT_3 195 rfl rfl
set_option maxRecDepth 20000 in
theorem me7_write : Cond.selects y7_write.cls y7_write y7_write ∈ xG := xG_s xV_1 15 rfl
set_option maxRecDepth 20000 in
theorem mf7_readSum : xmf y7_readSum prog_9_method_14_code 5 (some .boolean) := ⟨xG_k xT_3 183 rfl rfl, xG_k xT_1 5 rfl rfl, ⟨by decide +kernel, by decide +kernel⟩, by decide +kernel⟩
set_option maxRecDepth 20000 in
theorem mi7_readSum : Cond.instanceMethod y7_readSum ∈ xG := xG_k xT_3 182 rfl rfl
set_option maxRecDepth 20000 in
theorem me7_readSum : Cond.selects y7_readSum.cls y7_readSum y7_readSum ∈ xG := xG_s xV_1 12 rfl
set_option maxRecDepth 20000 in
theorem mf7_readProduct : xmf y7_readProduct prog_9_method_15_code 4 (some .boolean) := ⟨xG_k xT_3 187 rfl rfl, xG_k xT_1 5 rfl rfl, ⟨by decide +kernel, by decide +kernel⟩, by decide +kernel⟩
set_option maxRecDepth 20000 in
theorem mi7_readProduct : Cond.instanceMethod y7_readProduct ∈ xG := xG_k xT_3 186 rfl rfl
set_option maxRecDepth 20000 in
theorem me7_readProduct : Cond.selects y7_readProduct.cls y7_readProduct y7_readProduct ∈ xG := xG_s xV_1 13 rfl
set_option maxRecDepth 20000 in
theorem mf7_readPart : xmf y7_readPart prog_9_method_16_code 4 (some .boolean) := ⟨xG_k xT_3 191 rfl rfl, xG_k xT_1 5 rfl rfl, ⟨by decide +kernel, by decide +kernel⟩, by decide +kernel⟩
set_option maxRecDepth 20000 in
theorem mi7_readPart : Cond.instanceMethod y7_readPart ∈ xG := xG_k xT_3 190 rfl rfl
set_option maxRecDepth 20000 in
theorem me7_readPart : Cond.selects y7_readPart.cls y7_readPart y7_readPart ∈ xG := xG_s xV_1 14 rfl
set_option maxRecDepth 20000 in
theorem mf10_isFact : xmf y10_isFact prog_12_method_11_code 1 (some .boolean) := ⟨xG_k xT_3 123 rfl rfl, xG_k xT_1 2 rfl rfl, ⟨by decide +kernel, by decide +kernel⟩, by decide +kernel⟩
set_option maxRecDepth 20000 in
theorem mi10_isFact : Cond.instanceMethod y10_isFact ∈ xG := xG_k xT_3 121 rfl rfl
set_option maxRecDepth 20000 in
theorem me10_isFact : Cond.selects y10_isFact.cls y10_isFact y10_isFact ∈ xG := xG_k xT_3 122 rfl rfl
set_option maxRecDepth 20000 in
theorem mf4_addNumber : xmf y4_addNumber prog_6_method_4_code 2 none := ⟨xG_k xT_3 208 rfl rfl, xG_k xT_1 4 rfl rfl, ⟨by decide +kernel, by decide +kernel⟩, by decide +kernel⟩
set_option maxRecDepth 20000 in
theorem mi4_addNumber : Cond.instanceMethod y4_addNumber ∈ xG := xG_k xT_3 206 rfl rfl
set_option maxRecDepth 20000 in
theorem me4_addNumber : Cond.selects y4_addNumber.cls y4_addNumber y4_addNumber ∈ xG := xG_k xT_3 207 rfl rfl
set_option maxRecDepth 20000 in
theorem mf4_addKind : xmf y4_addKind prog_6_method_5_code 2 none := ⟨xG_k xT_3 200 rfl rfl, xG_k xT_1 4 rfl rfl, ⟨by decide +kernel, by decide +kernel⟩, by decide +kernel⟩
set_option maxRecDepth 20000 in
theorem mi4_addKind : Cond.instanceMethod y4_addKind ∈ xG := xG_k xT_3 198 rfl rfl
set_option maxRecDepth 20000 in
theorem me4_addKind : Cond.selects y4_addKind.cls y4_addKind y4_addKind ∈ xG := xG_k xT_3 199 rfl rfl
set_option maxRecDepth 20000 in
theorem mf2_isGuest : xmf y2_isGuest prog_4_method_5_code 2 (some .boolean) := ⟨xG_k xT_4 44 rfl rfl, xG_k xT_1 3 rfl rfl, ⟨by decide +kernel, by decide +kernel⟩, by decide +kernel⟩
set_option maxRecDepth 20000 in
theorem mi2_isGuest : Cond.instanceMethod y2_isGuest ∈ xG := xG_k xT_4 42 rfl rfl
set_option maxRecDepth 20000 in
theorem me2_isGuest : Cond.selects y2_isGuest.cls y2_isGuest y2_isGuest ∈ xG := xG_k xT_4 43 rfl rfl
set_option maxRecDepth 20000 in
theorem mf2_isBelt : xmf y2_isBelt prog_4_method_6_code 2 (some .boolean) := ⟨xG_k xT_4 52 rfl rfl, xG_k xT_1 3 rfl rfl, ⟨by decide +kernel, by decide +kernel⟩, by decide +kernel⟩
set_option maxRecDepth 20000 in
theorem mi2_isBelt : Cond.instanceMethod y2_isBelt ∈ xG := xG_k xT_4 50 rfl rfl
set_option maxRecDepth 20000 in
theorem me2_isBelt : Cond.selects y2_isBelt.cls y2_isBelt y2_isBelt ∈ xG := xG_k xT_4 51 rfl rfl
set_option maxRecDepth 20000 in
theorem mf8_holderOf : xmf y8_holderOf prog_10_method_8_code 3 (some .int) := ⟨xG_k xT_4 56 rfl rfl, xG_k xT_1 7 rfl rfl, ⟨by decide +kernel, by decide +kernel⟩, by decide +kernel⟩
set_option maxRecDepth 20000 in
theorem mi8_holderOf : Cond.instanceMethod y8_holderOf ∈ xG := xG_k xT_4 54 rfl rfl
set_option maxRecDepth 20000 in
theorem me8_holderOf : Cond.selects y8_holderOf.cls y8_holderOf y8_holderOf ∈ xG := xG_k xT_4 55 rfl rfl
set_option maxRecDepth 20000 in
theorem mf2_isMan : xmf y2_isMan prog_4_method_7_code 2 (some .boolean) := ⟨xG_k xT_4 64 rfl rfl, xG_k xT_1 3 rfl rfl, ⟨by decide +kernel, by decide +kernel⟩, by decide +kernel⟩
set_option maxRecDepth 20000 in
theorem mi2_isMan : Cond.instanceMethod y2_isMan ∈ xG := xG_k xT_4 62 rfl rfl
set_option maxRecDepth 20000 in
theorem me2_isMan : Cond.selects y2_isMan.cls y2_isMan y2_isMan ∈ xG := xG_k xT_4 63 rfl rfl
set_option maxRecDepth 20000 in
theorem mf2_canDrown : xmf y2_canDrown prog_4_method_10_code 2 (some .boolean) := ⟨xG_k xT_4 162 rfl rfl, xG_k xT_1 3 rfl rfl, ⟨by decide +kernel, by decide +kernel⟩, by decide +kernel⟩
set_option maxRecDepth 20000 in
theorem mi2_canDrown : Cond.instanceMethod y2_canDrown ∈ xG := xG_k xT_4 160 rfl rfl
set_option maxRecDepth 20000 in
theorem me2_canDrown : Cond.selects y2_canDrown.cls y2_canDrown y2_canDrown ∈ xG := xG_k xT_4 161 rfl rfl
set_option maxRecDepth 20000 in
theorem mf2_isShabby : xmf y2_isShabby prog_4_method_11_code 2 (some .boolean) := ⟨xG_k xT_4 97 rfl rfl, xG_k xT_1 3 rfl rfl, ⟨by decide +kernel, by decide +kernel⟩, by decide +kernel⟩
set_option maxRecDepth 20000 in
theorem mi2_isShabby : Cond.instanceMethod y2_isShabby ∈ xG := xG_k xT_4 95 rfl rfl
set_option maxRecDepth 20000 in
theorem me2_isShabby : Cond.selects y2_isShabby.cls y2_isShabby y2_isShabby ∈ xG := xG_k xT_4 96 rfl rfl
set_option maxRecDepth 20000 in
theorem mf8_wantsBelt : xmf y8_wantsBelt prog_10_method_13_code 2 (some .boolean) := ⟨xG_k xT_4 92 rfl rfl, xG_k xT_1 7 rfl rfl, ⟨by decide +kernel, by decide +kernel⟩, by decide +kernel⟩
set_option maxRecDepth 20000 in
theorem mi8_wantsBelt : Cond.instanceMethod y8_wantsBelt ∈ xG := xG_k xT_4 91 rfl rfl
set_option maxRecDepth 20000 in
theorem me8_wantsBelt : Cond.selects y8_wantsBelt.cls y8_wantsBelt y8_wantsBelt ∈ xG := xG_s xV_2 4 rfl
set_option maxRecDepth 20000 in
theorem mf8_isFree : xmf y8_isFree prog_10_method_11_code 2 (some .boolean) := ⟨xG_k xT_4 68 rfl rfl, xG_k xT_1 7 rfl rfl, ⟨by decide +kernel, by decide +kernel⟩, by decide +kernel⟩
set_option maxRecDepth 20000 in
theorem mi8_isFree : Cond.instanceMethod y8_isFree ∈ xG := xG_k xT_4 66 rfl rfl
set_option maxRecDepth 20000 in
theorem me8_isFree : Cond.selects y8_isFree.cls y8_isFree y8_isFree ∈ xG := xG_k xT_4 67 rfl rfl
set_option maxRecDepth 20000 in
theorem mf8_isOnWall : xmf y8_isOnWall prog_10_method_9_code 2 (some .boolean) := ⟨xG_k xT_4 81 rfl rfl, xG_k xT_1 7 rfl rfl, ⟨by decide +kernel, by decide +kernel⟩, by decide +kernel⟩
set_option maxRecDepth 20000 in
theorem mi8_isOnWall : Cond.instanceMethod y8_isOnWall ∈ xG := xG_k xT_4 79 rfl rfl
set_option maxRecDepth 20000 in
theorem me8_isOnWall : Cond.selects y8_isOnWall.cls y8_isOnWall y8_isOnWall ∈ xG := xG_k xT_4 80 rfl rfl
set_option maxRecDepth 20000 in
theorem mf8_isIn : xmf y8_isIn prog_10_method_5_code 2 (some .boolean) := ⟨xG_k xT_4 150 rfl rfl, xG_k xT_1 7 rfl rfl, ⟨by decide +kernel, by decide +kernel⟩, by decide +kernel⟩
set_option maxRecDepth 20000 in
theorem mi8_isIn : Cond.instanceMethod y8_isIn ∈ xG := xG_k xT_4 148 rfl rfl
set_option maxRecDepth 20000 in
theorem me8_isIn : Cond.selects y8_isIn.cls y8_isIn y8_isIn ∈ xG := xG_k xT_4 149 rfl rfl
set_option maxRecDepth 20000 in
theorem mf8_drowns : xmf y8_drowns prog_10_method_25_code 2 (some .boolean) := ⟨xG_k xT_4 154 rfl rfl, xG_k xT_1 7 rfl rfl, ⟨by decide +kernel, by decide +kernel⟩, by decide +kernel⟩
set_option maxRecDepth 20000 in
theorem mi8_drowns : Cond.instanceMethod y8_drowns ∈ xG := xG_k xT_4 153 rfl rfl
set_option maxRecDepth 20000 in
theorem me8_drowns : Cond.selects y8_drowns.cls y8_drowns y8_drowns ∈ xG := xG_s xV_2 5 rfl
set_option maxRecDepth 20000 in
theorem mf8_comeNearer : xmf y8_comeNearer prog_10_method_26_code 2 none := ⟨xG_k xT_4 170 rfl rfl, xG_k xT_1 7 rfl rfl, ⟨by decide +kernel, by decide +kernel⟩, by decide +kernel⟩
set_option maxRecDepth 20000 in
theorem mi8_comeNearer : Cond.instanceMethod y8_comeNearer ∈ xG := xG_k xT_4 169 rfl rfl
set_option maxRecDepth 20000 in
theorem me8_comeNearer : Cond.selects y8_comeNearer.cls y8_comeNearer y8_comeNearer ∈ xG := xG_s xV_2 6 rfl
set_option maxRecDepth 20000 in
theorem mf8_rise : xmf y8_rise prog_10_method_27_code 4 none := ⟨xG_k xT_4 174 rfl rfl, xG_k xT_1 7 rfl rfl, ⟨by decide +kernel, by decide +kernel⟩, by decide +kernel⟩
set_option maxRecDepth 20000 in
theorem mi8_rise : Cond.instanceMethod y8_rise ∈ xG := xG_k xT_4 173 rfl rfl
set_option maxRecDepth 20000 in
theorem me8_rise : Cond.selects y8_rise.cls y8_rise y8_rise ∈ xG := xG_s xV_2 7 rfl
set_option maxRecDepth 20000 in
theorem mf8_isUnder : xmf y8_isUnder prog_10_method_12_code 2 (some .boolean) := ⟨xG_k xT_4 158 rfl rfl, xG_k xT_1 7 rfl rfl, ⟨by decide +kernel, by decide +kernel⟩, by decide +kernel⟩
set_option maxRecDepth 20000 in
theorem mi8_isUnder : Cond.instanceMethod y8_isUnder ∈ xG := xG_k xT_4 156 rfl rfl
set_option maxRecDepth 20000 in
theorem me8_isUnder : Cond.selects y8_isUnder.cls y8_isUnder y8_isUnder ∈ xG := xG_k xT_4 157 rfl rfl
set_option maxRecDepth 20000 in
theorem mf4_value : xmf y4_value prog_6_method_7_code 9 (some .int) := ⟨xG_k xT_4 192 rfl rfl, xG_k xT_1 4 rfl rfl, ⟨by decide +kernel, by decide +kernel⟩, by decide +kernel⟩
set_option maxRecDepth 20000 in
theorem mi4_value : Cond.instanceMethod y4_value ∈ xG := xG_k xT_4 190 rfl rfl
set_option maxRecDepth 20000 in
theorem me4_value : Cond.selects y4_value.cls y4_value y4_value ∈ xG := xG_k xT_4 191 rfl rfl
set_option maxRecDepth 20000 in
theorem mf10_signAt : xmf y10_signAt prog_12_method_4_code 2 (some .char) := ⟨xG_k xT_2 220 rfl rfl, xG_k xT_1 2 rfl rfl, ⟨by decide +kernel, by decide +kernel⟩, by decide +kernel⟩
set_option maxRecDepth 20000 in
theorem mi10_signAt : Cond.instanceMethod y10_signAt ∈ xG := xG_k xT_2 219 rfl rfl
set_option maxRecDepth 20000 in
theorem me10_signAt : Cond.selects y10_signAt.cls y10_signAt y10_signAt ∈ xG := xG_s xV_1 0 rfl
set_option maxRecDepth 20000 in
theorem mf10_isBlank : xmf y10_isBlank prog_12_method_7_code 1 (some .boolean) := ⟨xG_k xT_2 223 rfl rfl, xG_k xT_1 2 rfl rfl, ⟨by decide +kernel, by decide +kernel⟩, by decide +kernel⟩
set_option maxRecDepth 20000 in
theorem ms10_isBlank : Cond.static y10_isBlank ∈ xG := xG_k xT_2 222 rfl rfl
set_option maxRecDepth 20000 in
theorem mf10_isLetter : xmf y10_isLetter prog_12_method_8_code 1 (some .boolean) := ⟨xG_k xT_2 226 rfl rfl, xG_k xT_1 2 rfl rfl, ⟨by decide +kernel, by decide +kernel⟩, by decide +kernel⟩
set_option maxRecDepth 20000 in
theorem ms10_isLetter : Cond.static y10_isLetter ∈ xG := xG_k xT_2 225 rfl rfl
set_option maxRecDepth 20000 in
theorem mf10_kindOf : xmf y10_kindOf prog_12_method_10_code 7 (some .int) := ⟨xG_k xT_2 230 rfl rfl, xG_k xT_1 2 rfl rfl, ⟨by decide +kernel, by decide +kernel⟩, by decide +kernel⟩
set_option maxRecDepth 20000 in
theorem ms10_kindOf : Cond.static y10_kindOf ∈ xG := xG_k xT_2 229 rfl rfl
set_option maxRecDepth 20000 in
theorem mf10_isDigit : xmf y10_isDigit prog_12_method_9_code 1 (some .boolean) := ⟨xG_k xT_3 42 rfl rfl, xG_k xT_1 2 rfl rfl, ⟨by decide +kernel, by decide +kernel⟩, by decide +kernel⟩
set_option maxRecDepth 20000 in
theorem ms10_isDigit : Cond.static y10_isDigit ∈ xG := xG_k xT_3 41 rfl rfl
set_option maxRecDepth 20000 in
theorem mfS_indexOf : xmf yS_indexOf prog_23_method_79_code 2 (some .int) := ⟨xG_k xT_3 47 rfl rfl, xG_k xT_1 14 rfl rfl, ⟨by decide +kernel, by decide +kernel⟩, by decide +kernel⟩
set_option maxRecDepth 20000 in
theorem miS_indexOf : Cond.instanceMethod yS_indexOf ∈ xG := xG_k xT_3 45 rfl rfl
set_option maxRecDepth 20000 in
theorem meS_indexOf : Cond.selects yS_indexOf.cls yS_indexOf yS_indexOf ∈ xG := xG_k xT_3 46 rfl rfl
set_option maxRecDepth 20000 in
theorem mfS_length : xmf yS_length prog_23_method_54_code 1 (some .int) := ⟨xG_k xT_2 235 rfl rfl, xG_k xT_1 14 rfl rfl, ⟨by decide +kernel, by decide +kernel⟩, by decide +kernel⟩
set_option maxRecDepth 20000 in
theorem miS_length : Cond.instanceMethod yS_length ∈ xG := xG_k xT_2 233 rfl rfl
set_option maxRecDepth 20000 in
theorem meS_length : Cond.selects yS_length.cls yS_length yS_length ∈ xG := xG_k xT_2 234 rfl rfl
set_option maxRecDepth 20000 in
theorem mfS_charAt : xmf yS_charAt prog_23_method_56_code 2 (some .char) := ⟨xG_k xT_3 5 rfl rfl, xG_k xT_1 14 rfl rfl, ⟨by decide +kernel, by decide +kernel⟩, by decide +kernel⟩
set_option maxRecDepth 20000 in
theorem miS_charAt : Cond.instanceMethod yS_charAt ∈ xG := xG_k xT_3 3 rfl rfl
set_option maxRecDepth 20000 in
theorem meS_charAt : Cond.selects yS_charAt.cls yS_charAt yS_charAt ∈ xG := xG_k xT_3 4 rfl rfl
set_option maxRecDepth 20000 in
theorem mf10_putEight : xmf y10_putEight prog_12_method_3_code 6 none := ⟨xG_k xT_2 192 rfl rfl, xG_k xT_1 2 rfl rfl, ⟨by decide +kernel, by decide +kernel⟩, by decide +kernel⟩
set_option maxRecDepth 20000 in
theorem mi10_putEight : Cond.instanceMethod y10_putEight ∈ xG := xG_k xT_2 190 rfl rfl
set_option maxRecDepth 20000 in
theorem me10_putEight : Cond.selects y10_putEight.cls y10_putEight y10_putEight ∈ xG := xG_k xT_2 191 rfl rfl
set_option maxRecDepth 20000 in
theorem mf7_read : xmf y7_read prog_9_method_2_code 3 (some .int) := ⟨xG_k xT_2 200 rfl rfl, xG_k xT_1 5 rfl rfl, ⟨by decide +kernel, by decide +kernel⟩, by decide +kernel⟩
set_option maxRecDepth 20000 in
theorem mi7_read : Cond.instanceMethod y7_read ∈ xG := xG_k xT_2 198 rfl rfl
set_option maxRecDepth 20000 in
theorem me7_read : Cond.selects y7_read.cls y7_read y7_read ∈ xG := xG_k xT_2 199 rfl rfl
set_option maxRecDepth 20000 in
theorem mf10_clear : xmf y10_clear prog_12_method_2_code 1 none := ⟨xG_k xT_3 212 rfl rfl, xG_k xT_1 2 rfl rfl, ⟨by decide +kernel, by decide +kernel⟩, by decide +kernel⟩
set_option maxRecDepth 20000 in
theorem mi10_clear : Cond.instanceMethod y10_clear ∈ xG := xG_k xT_3 210 rfl rfl
set_option maxRecDepth 20000 in
theorem me10_clear : Cond.selects y10_clear.cls y10_clear y10_clear ∈ xG := xG_k xT_3 211 rfl rfl
set_option maxRecDepth 20000 in
theorem mf2_copyFrom : xmf y2_copyFrom prog_4_method_3_code 2 none := ⟨xG_k xT_3 216 rfl rfl, xG_k xT_1 3 rfl rfl, ⟨by decide +kernel, by decide +kernel⟩, by decide +kernel⟩
set_option maxRecDepth 20000 in
theorem mi2_copyFrom : Cond.instanceMethod y2_copyFrom ∈ xG := xG_k xT_3 214 rfl rfl
set_option maxRecDepth 20000 in
theorem me2_copyFrom : Cond.selects y2_copyFrom.cls y2_copyFrom y2_copyFrom ∈ xG := xG_k xT_3 215 rfl rfl
set_option maxRecDepth 20000 in
theorem mf1_clear : xmf y1_clear prog_3_method_2_code 1 none := ⟨xG_k xT_3 232 rfl rfl, xG_k xT_1 6 rfl rfl, ⟨by decide +kernel, by decide +kernel⟩, by decide +kernel⟩
set_option maxRecDepth 20000 in
theorem mi1_clear : Cond.instanceMethod y1_clear ∈ xG := xG_k xT_3 230 rfl rfl
set_option maxRecDepth 20000 in
theorem me1_clear : Cond.selects y1_clear.cls y1_clear y1_clear ∈ xG := xG_k xT_3 231 rfl rfl
set_option maxRecDepth 20000 in
theorem mf9_clear : xmf y9_clear prog_11_method_2_code 1 none := ⟨xG_k xT_3 236 rfl rfl, xG_k xT_1 10 rfl rfl, ⟨by decide +kernel, by decide +kernel⟩, by decide +kernel⟩
set_option maxRecDepth 20000 in
theorem mi9_clear : Cond.instanceMethod y9_clear ∈ xG := xG_k xT_3 234 rfl rfl
set_option maxRecDepth 20000 in
theorem me9_clear : Cond.selects y9_clear.cls y9_clear y9_clear ∈ xG := xG_k xT_3 235 rfl rfl
set_option maxRecDepth 20000 in
theorem mf0_clear : xmf y0_clear prog_2_method_2_code 1 none := ⟨xG_k xT_4 0 rfl rfl, xG_k xT_1 8 rfl rfl, ⟨by decide +kernel, by decide +kernel⟩, by decide +kernel⟩
set_option maxRecDepth 20000 in
theorem mi0_clear : Cond.instanceMethod y0_clear ∈ xG := xG_k xT_3 238 rfl rfl
set_option maxRecDepth 20000 in
theorem me0_clear : Cond.selects y0_clear.cls y0_clear y0_clear ∈ xG := xG_k xT_3 239 rfl rfl
set_option maxRecDepth 20000 in
theorem mf11_liftMarks : xmf y11_liftMarks prog_1_method_4_code 3 none := ⟨xG_k xT_4 4 rfl rfl, xG_k xT_1 1 rfl rfl, ⟨by decide +kernel, by decide +kernel⟩, by decide +kernel⟩
set_option maxRecDepth 20000 in
theorem mi11_liftMarks : Cond.instanceMethod y11_liftMarks ∈ xG := xG_k xT_4 3 rfl rfl
set_option maxRecDepth 20000 in
theorem me11_liftMarks : Cond.selects y11_liftMarks.cls y11_liftMarks y11_liftMarks ∈ xG := xG_s xV_2 1 rfl
set_option maxRecDepth 20000 in
theorem mf5_lift : xmf y5_lift prog_7_method_2_code 1 none := ⟨xG_k xT_4 8 rfl rfl, xG_k xT_1 9 rfl rfl, ⟨by decide +kernel, by decide +kernel⟩, by decide +kernel⟩
set_option maxRecDepth 20000 in
theorem mi5_lift : Cond.instanceMethod y5_lift ∈ xG := xG_k xT_4 6 rfl rfl
set_option maxRecDepth 20000 in
theorem me5_lift : Cond.selects y5_lift.cls y5_lift y5_lift ∈ xG := xG_k xT_4 7 rfl rfl
set_option maxRecDepth 20000 in
theorem mf1_read : xmf y1_read prog_3_method_4_code 5 (some .int) := ⟨xG_k xT_4 17 rfl rfl, xG_k xT_1 6 rfl rfl, ⟨by decide +kernel, by decide +kernel⟩, by decide +kernel⟩
set_option maxRecDepth 20000 in
theorem mi1_read : Cond.instanceMethod y1_read ∈ xG := xG_k xT_4 15 rfl rfl
set_option maxRecDepth 20000 in
theorem me1_read : Cond.selects y1_read.cls y1_read y1_read ∈ xG := xG_k xT_4 16 rfl rfl
set_option maxRecDepth 20000 in
theorem mf1_copyFrom : xmf y1_copyFrom prog_3_method_3_code 2 none := ⟨xG_k xT_4 35 rfl rfl, xG_k xT_1 6 rfl rfl, ⟨by decide +kernel, by decide +kernel⟩, by decide +kernel⟩
set_option maxRecDepth 20000 in
theorem mi1_copyFrom : Cond.instanceMethod y1_copyFrom ∈ xG := xG_k xT_4 33 rfl rfl
set_option maxRecDepth 20000 in
theorem me1_copyFrom : Cond.selects y1_copyFrom.cls y1_copyFrom y1_copyFrom ∈ xG := xG_k xT_4 34 rfl rfl
set_option maxRecDepth 20000 in
theorem mf0_keep : xmf y0_keep prog_2_method_3_code 3 none := ⟨xG_k xT_4 104 rfl rfl, xG_k xT_1 8 rfl rfl, ⟨by decide +kernel, by decide +kernel⟩, by decide +kernel⟩
set_option maxRecDepth 20000 in
theorem mi0_keep : Cond.instanceMethod y0_keep ∈ xG := xG_k xT_4 102 rfl rfl
set_option maxRecDepth 20000 in
theorem me0_keep : Cond.selects y0_keep.cls y0_keep y0_keep ∈ xG := xG_k xT_4 103 rfl rfl
set_option maxRecDepth 20000 in
theorem mf0_bringBack : xmf y0_bringBack prog_2_method_4_code 4 (some .boolean) := ⟨xG_k xT_4 213 rfl rfl, xG_k xT_1 8 rfl rfl, ⟨by decide +kernel, by decide +kernel⟩, by decide +kernel⟩
set_option maxRecDepth 20000 in
theorem mi0_bringBack : Cond.instanceMethod y0_bringBack ∈ xG := xG_k xT_4 211 rfl rfl
set_option maxRecDepth 20000 in
theorem me0_bringBack : Cond.selects y0_bringBack.cls y0_bringBack y0_bringBack ∈ xG := xG_k xT_4 212 rfl rfl
set_option maxRecDepth 20000 in
theorem mf1_judge : xmf y1_judge prog_3_method_7_code 7 (some .int) := ⟨xG_k xT_4 221 rfl rfl, xG_k xT_1 6 rfl rfl, ⟨by decide +kernel, by decide +kernel⟩, by decide +kernel⟩
set_option maxRecDepth 20000 in
theorem mi1_judge : Cond.instanceMethod y1_judge ∈ xG := xG_k xT_4 219 rfl rfl
set_option maxRecDepth 20000 in
theorem me1_judge : Cond.selects y1_judge.cls y1_judge y1_judge ∈ xG := xG_k xT_4 220 rfl rfl
set_option maxRecDepth 20000 in
theorem mf8_criers : xmf y8_criers prog_10_method_15_code 3 (some .int) := ⟨xG_k xT_5 8 rfl rfl, xG_k xT_1 7 rfl rfl, ⟨by decide +kernel, by decide +kernel⟩, by decide +kernel⟩
set_option maxRecDepth 20000 in
theorem mi8_criers : Cond.instanceMethod y8_criers ∈ xG := xG_k xT_5 6 rfl rfl
set_option maxRecDepth 20000 in
theorem me8_criers : Cond.selects y8_criers.cls y8_criers y8_criers ∈ xG := xG_k xT_5 7 rfl rfl
set_option maxRecDepth 20000 in
theorem mf11_goAhead : xmf y11_goAhead prog_1_method_18_code 3 none := ⟨xG_k xT_5 20 rfl rfl, xG_k xT_1 1 rfl rfl, ⟨by decide +kernel, by decide +kernel⟩, by decide +kernel⟩
set_option maxRecDepth 20000 in
theorem mi11_goAhead : Cond.instanceMethod y11_goAhead ∈ xG := xG_k xT_5 19 rfl rfl
set_option maxRecDepth 20000 in
theorem me11_goAhead : Cond.selects y11_goAhead.cls y11_goAhead y11_goAhead ∈ xG := xG_s xV_2 11 rfl
set_option maxRecDepth 20000 in
theorem mf11_minutesUntil : xmf y11_minutesUntil prog_1_method_21_code 4 (some .int) := ⟨xG_k xT_5 33 rfl rfl, xG_k xT_1 1 rfl rfl, ⟨by decide +kernel, by decide +kernel⟩, by decide +kernel⟩
set_option maxRecDepth 20000 in
theorem mi11_minutesUntil : Cond.instanceMethod y11_minutesUntil ∈ xG := xG_k xT_5 32 rfl rfl
set_option maxRecDepth 20000 in
theorem me11_minutesUntil : Cond.selects y11_minutesUntil.cls y11_minutesUntil y11_minutesUntil ∈ xG := xG_s xV_2 12 rfl
set_option maxRecDepth 20000 in
theorem mf8_isInState : xmf y8_isInState prog_10_method_4_code 3 (some .boolean) := ⟨xG_k xT_5 38 rfl rfl, xG_k xT_1 7 rfl rfl, ⟨by decide +kernel, by decide +kernel⟩, by decide +kernel⟩
set_option maxRecDepth 20000 in
theorem mi8_isInState : Cond.instanceMethod y8_isInState ∈ xG := xG_k xT_5 36 rfl rfl
set_option maxRecDepth 20000 in
theorem me8_isInState : Cond.selects y8_isInState.cls y8_isInState y8_isInState ∈ xG := xG_k xT_5 37 rfl rfl
set_option maxRecDepth 20000 in
theorem mf11_lowestBit : xmf y11_lowestBit prog_1_method_23_code 2 (some .int) := ⟨xG_k xT_5 45 rfl rfl, xG_k xT_1 1 rfl rfl, ⟨by decide +kernel, by decide +kernel⟩, by decide +kernel⟩
set_option maxRecDepth 20000 in
theorem ms11_lowestBit : Cond.static y11_lowestBit ∈ xG := xG_k xT_5 44 rfl rfl
set_option maxRecDepth 20000 in
theorem mf8_borneBy : xmf y8_borneBy prog_10_method_16_code 4 (some .int) := ⟨xG_k xT_5 71 rfl rfl, xG_k xT_1 7 rfl rfl, ⟨by decide +kernel, by decide +kernel⟩, by decide +kernel⟩
set_option maxRecDepth 20000 in
theorem mi8_borneBy : Cond.instanceMethod y8_borneBy ∈ xG := xG_k xT_5 69 rfl rfl
set_option maxRecDepth 20000 in
theorem me8_borneBy : Cond.selects y8_borneBy.cls y8_borneBy y8_borneBy ∈ xG := xG_k xT_5 70 rfl rfl
set_option maxRecDepth 20000 in
theorem mf6_plan : xmf y6_plan prog_8_method_2_code 2 none := ⟨xG_k xT_5 84 rfl rfl, xG_k xT_1 12 rfl rfl, ⟨by decide +kernel, by decide +kernel⟩, by decide +kernel⟩
set_option maxRecDepth 20000 in
theorem mi6_plan : Cond.instanceMethod y6_plan ∈ xG := xG_k xT_5 82 rfl rfl
set_option maxRecDepth 20000 in
theorem me6_plan : Cond.selects y6_plan.cls y6_plan y6_plan ∈ xG := xG_k xT_5 83 rfl rfl
set_option maxRecDepth 20000 in
theorem mf2_bearsAll : xmf y2_bearsAll prog_4_method_15_code 4 (some .boolean) := ⟨xG_k xT_5 113 rfl rfl, xG_k xT_1 3 rfl rfl, ⟨by decide +kernel, by decide +kernel⟩, by decide +kernel⟩
set_option maxRecDepth 20000 in
theorem mi2_bearsAll : Cond.instanceMethod y2_bearsAll ∈ xG := xG_k xT_5 111 rfl rfl
set_option maxRecDepth 20000 in
theorem me2_bearsAll : Cond.selects y2_bearsAll.cls y2_bearsAll y2_bearsAll ∈ xG := xG_k xT_5 112 rfl rfl
set_option maxRecDepth 20000 in
theorem mf2_bearing : xmf y2_bearing prog_4_method_14_code 4 (some .int) := ⟨xG_k xT_5 126 rfl rfl, xG_k xT_1 3 rfl rfl, ⟨by decide +kernel, by decide +kernel⟩, by decide +kernel⟩
set_option maxRecDepth 20000 in
theorem mi2_bearing : Cond.instanceMethod y2_bearing ∈ xG := xG_k xT_5 124 rfl rfl
set_option maxRecDepth 20000 in
theorem me2_bearing : Cond.selects y2_bearing.cls y2_bearing y2_bearing ∈ xG := xG_k xT_5 125 rfl rfl
set_option maxRecDepth 20000 in
theorem mf2_leastBelt : xmf y2_leastBelt prog_4_method_13_code 4 (some .int) := ⟨xG_k xT_5 134 rfl rfl, xG_k xT_1 3 rfl rfl, ⟨by decide +kernel, by decide +kernel⟩, by decide +kernel⟩
set_option maxRecDepth 20000 in
theorem mi2_leastBelt : Cond.instanceMethod y2_leastBelt ∈ xG := xG_k xT_5 132 rfl rfl
set_option maxRecDepth 20000 in
theorem me2_leastBelt : Cond.selects y2_leastBelt.cls y2_leastBelt y2_leastBelt ∈ xG := xG_k xT_5 133 rfl rfl
set_option maxRecDepth 20000 in
theorem mf8_manyAt : xmf y8_manyAt prog_10_method_7_code 4 (some .int) := ⟨xG_k xT_5 156 rfl rfl, xG_k xT_1 7 rfl rfl, ⟨by decide +kernel, by decide +kernel⟩, by decide +kernel⟩
set_option maxRecDepth 20000 in
theorem mi8_manyAt : Cond.instanceMethod y8_manyAt ∈ xG := xG_k xT_5 154 rfl rfl
set_option maxRecDepth 20000 in
theorem me8_manyAt : Cond.selects y8_manyAt.cls y8_manyAt y8_manyAt ∈ xG := xG_k xT_5 155 rfl rfl
set_option maxRecDepth 20000 in
theorem mf11_isSavedBy : xmf y11_isSavedBy prog_1_method_42_code 5 (some .boolean) := ⟨xG_k xT_5 179 rfl rfl, xG_k xT_1 1 rfl rfl, ⟨by decide +kernel, by decide +kernel⟩, by decide +kernel⟩
set_option maxRecDepth 20000 in
theorem mi11_isSavedBy : Cond.instanceMethod y11_isSavedBy ∈ xG := xG_k xT_5 178 rfl rfl
set_option maxRecDepth 20000 in
theorem me11_isSavedBy : Cond.selects y11_isSavedBy.cls y11_isSavedBy y11_isSavedBy ∈ xG := xG_s xV_3 2 rfl
set_option maxRecDepth 20000 in
theorem mf9_add : xmf y9_add prog_11_method_4_code 3 (some .boolean) := ⟨xG_k xT_5 191 rfl rfl, xG_k xT_1 10 rfl rfl, ⟨by decide +kernel, by decide +kernel⟩, by decide +kernel⟩
set_option maxRecDepth 20000 in
theorem mi9_add : Cond.instanceMethod y9_add ∈ xG := xG_k xT_5 189 rfl rfl
set_option maxRecDepth 20000 in
theorem me9_add : Cond.selects y9_add.cls y9_add y9_add ∈ xG := xG_k xT_5 190 rfl rfl
set_option maxRecDepth 20000 in
theorem mf3_open : xmf y3_open prog_5_method_2_code 4 none := ⟨xG_k xT_5 199 rfl rfl, xG_k xT_1 11 rfl rfl, ⟨by decide +kernel, by decide +kernel⟩, by decide +kernel⟩
set_option maxRecDepth 20000 in
theorem mi3_open : Cond.instanceMethod y3_open ∈ xG := xG_k xT_5 197 rfl rfl
set_option maxRecDepth 20000 in
theorem me3_open : Cond.selects y3_open.cls y3_open y3_open ∈ xG := xG_k xT_5 198 rfl rfl
set_option maxRecDepth 20000 in
theorem mf3_tellingMinute : xmf y3_tellingMinute prog_5_method_5_code 7 (some .int) := ⟨xG_k xT_5 221 rfl rfl, xG_k xT_1 11 rfl rfl, ⟨by decide +kernel, by decide +kernel⟩, by decide +kernel⟩
set_option maxRecDepth 20000 in
theorem mi3_tellingMinute : Cond.instanceMethod y3_tellingMinute ∈ xG := xG_k xT_5 219 rfl rfl
set_option maxRecDepth 20000 in
theorem me3_tellingMinute : Cond.selects y3_tellingMinute.cls y3_tellingMinute y3_tellingMinute ∈ xG := xG_k xT_5 220 rfl rfl
set_option maxRecDepth 20000 in
theorem mf11_weightOf : xmf y11_weightOf prog_1_method_48_code 5 (some .int) := ⟨xG_k xT_6 0 rfl rfl, xG_k xT_1 1 rfl rfl, ⟨by decide +kernel, by decide +kernel⟩, by decide +kernel⟩
set_option maxRecDepth 20000 in
theorem ms11_weightOf : Cond.static y11_weightOf ∈ xG := xG_k xT_5 239 rfl rfl
set_option maxRecDepth 20000 in
theorem mf11_isSunkBy : xmf y11_isSunkBy prog_1_method_49_code 5 (some .boolean) := ⟨xG_k xT_6 4 rfl rfl, xG_k xT_1 1 rfl rfl, ⟨by decide +kernel, by decide +kernel⟩, by decide +kernel⟩
set_option maxRecDepth 20000 in
theorem mi11_isSunkBy : Cond.instanceMethod y11_isSunkBy ∈ xG := xG_k xT_6 3 rfl rfl
set_option maxRecDepth 20000 in
theorem me11_isSunkBy : Cond.selects y11_isSunkBy.cls y11_isSunkBy y11_isSunkBy ∈ xG := xG_s xV_3 5 rfl
set_option maxRecDepth 20000 in
theorem mf11_isPrize : xmf y11_isPrize prog_1_method_51_code 1 (some .boolean) := ⟨xG_k xT_6 60 rfl rfl, xG_k xT_1 1 rfl rfl, ⟨by decide +kernel, by decide +kernel⟩, by decide +kernel⟩
set_option maxRecDepth 20000 in
theorem ms11_isPrize : Cond.static y11_isPrize ∈ xG := xG_k xT_6 59 rfl rfl
set_option maxRecDepth 20000 in
theorem mf11_gain : xmf y11_gain prog_1_method_52_code 5 (some .int) := ⟨xG_k xT_6 124 rfl rfl, xG_k xT_1 1 rfl rfl, ⟨by decide +kernel, by decide +kernel⟩, by decide +kernel⟩
set_option maxRecDepth 20000 in
theorem ms11_gain : Cond.static y11_gain ∈ xG := xG_k xT_6 123 rfl rfl
set_option maxRecDepth 20000 in
theorem mf11_playBalls : xmf y11_playBalls prog_1_method_54_code 11 (some .int) := ⟨xG_k xT_6 12 rfl rfl, xG_k xT_1 1 rfl rfl, ⟨by decide +kernel, by decide +kernel⟩, by decide +kernel⟩
set_option maxRecDepth 20000 in
theorem mi11_playBalls : Cond.instanceMethod y11_playBalls ∈ xG := xG_k xT_6 11 rfl rfl
set_option maxRecDepth 20000 in
theorem me11_playBalls : Cond.selects y11_playBalls.cls y11_playBalls y11_playBalls ∈ xG := xG_s xV_3 6 rfl
set_option maxRecDepth 20000 in
theorem mf11_nextDraw : xmf y11_nextDraw prog_1_method_55_code 2 (some .long) := ⟨xG_k xT_6 15 rfl rfl, xG_k xT_1 1 rfl rfl, ⟨by decide +kernel, by decide +kernel⟩, by decide +kernel⟩
set_option maxRecDepth 20000 in
theorem ms11_nextDraw : Cond.static y11_nextDraw ∈ xG := xG_k xT_6 14 rfl rfl
set_option maxRecDepth 20000 in
theorem mf11_below : xmf y11_below prog_1_method_56_code 3 (some .int) := ⟨xG_k xT_6 21 rfl rfl, xG_k xT_1 1 rfl rfl, ⟨by decide +kernel, by decide +kernel⟩, by decide +kernel⟩
set_option maxRecDepth 20000 in
theorem ms11_below : Cond.static y11_below ∈ xG := xG_k xT_6 20 rfl rfl
set_option maxRecDepth 20000 in
theorem mf11_dance : xmf y11_dance prog_1_method_57_code 5 (some .int) := ⟨xG_k xT_6 26 rfl rfl, xG_k xT_1 1 rfl rfl, ⟨by decide +kernel, by decide +kernel⟩, by decide +kernel⟩
set_option maxRecDepth 20000 in
theorem mi11_dance : Cond.instanceMethod y11_dance ∈ xG := xG_k xT_6 25 rfl rfl
set_option maxRecDepth 20000 in
theorem me11_dance : Cond.selects y11_dance.cls y11_dance y11_dance ∈ xG := xG_s xV_3 7 rfl
set_option maxRecDepth 20000 in
theorem mf5_lay : xmf y5_lay prog_7_method_3_code 3 none := ⟨xG_k xT_6 34 rfl rfl, xG_k xT_1 9 rfl rfl, ⟨by decide +kernel, by decide +kernel⟩, by decide +kernel⟩
set_option maxRecDepth 20000 in
theorem mi5_lay : Cond.instanceMethod y5_lay ∈ xG := xG_k xT_6 32 rfl rfl
set_option maxRecDepth 20000 in
theorem me5_lay : Cond.selects y5_lay.cls y5_lay y5_lay ∈ xG := xG_k xT_6 33 rfl rfl
set_option maxRecDepth 20000 in
theorem mf5_bringBack : xmf y5_bringBack prog_7_method_4_code 3 (some .boolean) := ⟨xG_k xT_6 44 rfl rfl, xG_k xT_1 9 rfl rfl, ⟨by decide +kernel, by decide +kernel⟩, by decide +kernel⟩
set_option maxRecDepth 20000 in
theorem mi5_bringBack : Cond.instanceMethod y5_bringBack ∈ xG := xG_k xT_6 42 rfl rfl
set_option maxRecDepth 20000 in
theorem me5_bringBack : Cond.selects y5_bringBack.cls y5_bringBack y5_bringBack ∈ xG := xG_k xT_6 43 rfl rfl
set_option maxRecDepth 20000 in
theorem mf12_lay : xmf y12_lay prog_14_method_3_code 5 none := ⟨xG_k xT_6 137 rfl rfl, xG_k xT_1 13 rfl rfl, ⟨by decide +kernel, by decide +kernel⟩, by decide +kernel⟩
set_option maxRecDepth 20000 in
theorem mi12_lay : Cond.instanceMethod y12_lay ∈ xG := xG_k xT_6 135 rfl rfl
set_option maxRecDepth 20000 in
theorem me12_lay : Cond.selects y12_lay.cls y12_lay y12_lay ∈ xG := xG_s xV_3 9 rfl
set_option maxRecDepth 20000 in
theorem mf12_isLetter : xmf y12_isLetter prog_14_method_5_code 1 (some .boolean) := ⟨xG_k xT_7 64 rfl rfl, xG_k xT_1 13 rfl rfl, ⟨by decide +kernel, by decide +kernel⟩, by decide +kernel⟩
set_option maxRecDepth 20000 in
theorem ms12_isLetter : Cond.static y12_isLetter ∈ xG := xG_k xT_7 63 rfl rfl
set_option maxRecDepth 20000 in
theorem mf12_rank : xmf y12_rank prog_14_method_7_code 1 (some .int) := ⟨xG_k xT_7 68 rfl rfl, xG_k xT_1 13 rfl rfl, ⟨by decide +kernel, by decide +kernel⟩, by decide +kernel⟩
set_option maxRecDepth 20000 in
theorem ms12_rank : Cond.static y12_rank ∈ xG := xG_k xT_7 67 rfl rfl
set_option maxRecDepth 20000 in
theorem mf12_isDigit : xmf y12_isDigit prog_14_method_6_code 1 (some .boolean) := ⟨xG_k xT_7 71 rfl rfl, xG_k xT_1 13 rfl rfl, ⟨by decide +kernel, by decide +kernel⟩, by decide +kernel⟩
set_option maxRecDepth 20000 in
theorem ms12_isDigit : Cond.static y12_isDigit ∈ xG := xG_k xT_7 70 rfl rfl
set_option maxRecDepth 20000 in
theorem mf12_isSignOf : xmf y12_isSignOf prog_14_method_8_code 1 (some .boolean) := ⟨xG_k xT_7 76 rfl rfl, xG_k xT_1 13 rfl rfl, ⟨by decide +kernel, by decide +kernel⟩, by decide +kernel⟩
set_option maxRecDepth 20000 in
theorem ms12_isSignOf : Cond.static y12_isSignOf ∈ xG := xG_k xT_7 75 rfl rfl
set_option maxRecDepth 20000 in
theorem mf12_isSign : xmf y12_isSign prog_14_method_11_code 2 (some .boolean) := ⟨xG_k xT_7 156 rfl rfl, xG_k xT_1 13 rfl rfl, ⟨by decide +kernel, by decide +kernel⟩, by decide +kernel⟩
set_option maxRecDepth 20000 in
theorem mi12_isSign : Cond.instanceMethod y12_isSign ∈ xG := xG_k xT_7 155 rfl rfl
set_option maxRecDepth 20000 in
theorem me12_isSign : Cond.selects y12_isSign.cls y12_isSign y12_isSign ∈ xG := xG_s xV_5 3 rfl
set_option maxRecDepth 20000 in
theorem mf12_wrong : xmf y12_wrong prog_14_method_10_code 2 none := ⟨xG_k xT_7 96 rfl rfl, xG_k xT_1 13 rfl rfl, ⟨by decide +kernel, by decide +kernel⟩, by decide +kernel⟩
set_option maxRecDepth 20000 in
theorem mi12_wrong : Cond.instanceMethod y12_wrong ∈ xG := xG_k xT_7 95 rfl rfl
set_option maxRecDepth 20000 in
theorem me12_wrong : Cond.selects y12_wrong.cls y12_wrong y12_wrong ∈ xG := xG_s xV_4 4 rfl
set_option maxRecDepth 20000 in
theorem mf12_isWord : xmf y12_isWord prog_14_method_12_code 2 (some .boolean) := ⟨xG_k xT_7 84 rfl rfl, xG_k xT_1 13 rfl rfl, ⟨by decide +kernel, by decide +kernel⟩, by decide +kernel⟩
set_option maxRecDepth 20000 in
theorem mi12_isWord : Cond.instanceMethod y12_isWord ∈ xG := xG_k xT_7 83 rfl rfl
set_option maxRecDepth 20000 in
theorem me12_isWord : Cond.selects y12_isWord.cls y12_isWord y12_isWord ∈ xG := xG_s xV_4 1 rfl
set_option maxRecDepth 20000 in
theorem mf12_hasWord : xmf y12_hasWord prog_14_method_15_code 3 (some .boolean) := ⟨xG_k xT_7 124 rfl rfl, xG_k xT_1 13 rfl rfl, ⟨by decide +kernel, by decide +kernel⟩, by decide +kernel⟩
set_option maxRecDepth 20000 in
theorem mi12_hasWord : Cond.instanceMethod y12_hasWord ∈ xG := xG_k xT_7 123 rfl rfl
set_option maxRecDepth 20000 in
theorem me12_hasWord : Cond.selects y12_hasWord.cls y12_hasWord y12_hasWord ∈ xG := xG_s xV_4 11 rfl
set_option maxRecDepth 20000 in
theorem mf12_takeWord : xmf y12_takeWord prog_14_method_16_code 2 none := ⟨xG_k xT_7 120 rfl rfl, xG_k xT_1 13 rfl rfl, ⟨by decide +kernel, by decide +kernel⟩, by decide +kernel⟩
set_option maxRecDepth 20000 in
theorem mi12_takeWord : Cond.instanceMethod y12_takeWord ∈ xG := xG_k xT_7 119 rfl rfl
set_option maxRecDepth 20000 in
theorem me12_takeWord : Cond.selects y12_takeWord.cls y12_takeWord y12_takeWord ∈ xG := xG_s xV_4 10 rfl
set_option maxRecDepth 20000 in
theorem mf12_takeNumber : xmf y12_takeNumber prog_14_method_19_code 3 (some .int) := ⟨xG_k xT_7 128 rfl rfl, xG_k xT_1 13 rfl rfl, ⟨by decide +kernel, by decide +kernel⟩, by decide +kernel⟩
set_option maxRecDepth 20000 in
theorem mi12_takeNumber : Cond.instanceMethod y12_takeNumber ∈ xG := xG_k xT_7 127 rfl rfl
set_option maxRecDepth 20000 in
theorem me12_takeNumber : Cond.selects y12_takeNumber.cls y12_takeNumber y12_takeNumber ∈ xG := xG_s xV_4 12 rfl
set_option maxRecDepth 20000 in
theorem mf12_wordHere : xmf y12_wordHere prog_14_method_21_code 5 (some .int) := ⟨xG_k xT_7 104 rfl rfl, xG_k xT_1 13 rfl rfl, ⟨by decide +kernel, by decide +kernel⟩, by decide +kernel⟩
set_option maxRecDepth 20000 in
theorem mi12_wordHere : Cond.instanceMethod y12_wordHere ∈ xG := xG_k xT_7 103 rfl rfl
set_option maxRecDepth 20000 in
theorem me12_wordHere : Cond.selects y12_wordHere.cls y12_wordHere y12_wordHere ∈ xG := xG_s xV_4 6 rfl
set_option maxRecDepth 20000 in
theorem mf12_isName : xmf y12_isName prog_14_method_23_code 1 (some .boolean) := ⟨xG_k xT_7 100 rfl rfl, xG_k xT_1 13 rfl rfl, ⟨by decide +kernel, by decide +kernel⟩, by decide +kernel⟩
set_option maxRecDepth 20000 in
theorem mi12_isName : Cond.instanceMethod y12_isName ∈ xG := xG_k xT_7 99 rfl rfl
set_option maxRecDepth 20000 in
theorem me12_isName : Cond.selects y12_isName.cls y12_isName y12_isName ∈ xG := xG_s xV_4 5 rfl
set_option maxRecDepth 20000 in
theorem mf12_nameAt : xmf y12_nameAt prog_14_method_24_code 3 (some .int) := ⟨xG_k xT_7 108 rfl rfl, xG_k xT_1 13 rfl rfl, ⟨by decide +kernel, by decide +kernel⟩, by decide +kernel⟩
set_option maxRecDepth 20000 in
theorem mi12_nameAt : Cond.instanceMethod y12_nameAt ∈ xG := xG_k xT_7 107 rfl rfl
set_option maxRecDepth 20000 in
theorem me12_nameAt : Cond.selects y12_nameAt.cls y12_nameAt y12_nameAt ∈ xG := xG_s xV_4 7 rfl
set_option maxRecDepth 20000 in
theorem mf12_within : xmf y12_within prog_14_method_17_code 3 (some .boolean) := ⟨xG_k xT_7 183 rfl rfl, xG_k xT_1 13 rfl rfl, ⟨by decide +kernel, by decide +kernel⟩, by decide +kernel⟩
set_option maxRecDepth 20000 in
theorem ms12_within : Cond.static y12_within ∈ xG := xG_k xT_7 182 rfl rfl
set_option maxRecDepth 20000 in
theorem mf12_cutAll : xmf y12_cutAll prog_14_method_9_code 7 none := ⟨xG_k xT_7 61 rfl rfl, xG_k xT_1 13 rfl rfl, ⟨by decide +kernel, by decide +kernel⟩, by decide +kernel⟩
set_option maxRecDepth 20000 in
theorem mi12_cutAll : Cond.instanceMethod y12_cutAll ∈ xG := xG_k xT_7 60 rfl rfl
set_option maxRecDepth 20000 in
theorem me12_cutAll : Cond.selects y12_cutAll.cls y12_cutAll y12_cutAll ∈ xG := xG_s xV_3 15 rfl
set_option maxRecDepth 20000 in
theorem mf12_standsAsAlways : xmf y12_standsAsAlways prog_14_method_18_code 3 none := ⟨xG_k xT_6 173 rfl rfl, xG_k xT_1 13 rfl rfl, ⟨by decide +kernel, by decide +kernel⟩, by decide +kernel⟩
set_option maxRecDepth 20000 in
theorem mi12_standsAsAlways : Cond.instanceMethod y12_standsAsAlways ∈ xG := xG_k xT_6 172 rfl rfl
set_option maxRecDepth 20000 in
theorem me12_standsAsAlways : Cond.selects y12_standsAsAlways.cls y12_standsAsAlways y12_standsAsAlways ∈ xG := xG_s xV_3 10 rfl
set_option maxRecDepth 20000 in
theorem mf12_readLine : xmf y12_readLine prog_14_method_27_code 4 none := ⟨xG_k xT_7 80 rfl rfl, xG_k xT_1 13 rfl rfl, ⟨by decide +kernel, by decide +kernel⟩, by decide +kernel⟩
set_option maxRecDepth 20000 in
theorem mi12_readLine : Cond.instanceMethod y12_readLine ∈ xG := xG_k xT_7 79 rfl rfl
set_option maxRecDepth 20000 in
theorem me12_readLine : Cond.selects y12_readLine.cls y12_readLine y12_readLine ∈ xG := xG_s xV_4 0 rfl
set_option maxRecDepth 20000 in
theorem mf12_takeSign : xmf y12_takeSign prog_14_method_13_code 2 none := ⟨xG_k xT_7 168 rfl rfl, xG_k xT_1 13 rfl rfl, ⟨by decide +kernel, by decide +kernel⟩, by decide +kernel⟩
set_option maxRecDepth 20000 in
theorem mi12_takeSign : Cond.instanceMethod y12_takeSign ∈ xG := xG_k xT_7 167 rfl rfl
set_option maxRecDepth 20000 in
theorem me12_takeSign : Cond.selects y12_takeSign.cls y12_takeSign y12_takeSign ∈ xG := xG_s xV_5 6 rfl
set_option maxRecDepth 20000 in
theorem mf12_begins : xmf y12_begins prog_14_method_43_code 2 none := ⟨xG_k xT_6 177 rfl rfl, xG_k xT_1 13 rfl rfl, ⟨by decide +kernel, by decide +kernel⟩, by decide +kernel⟩
set_option maxRecDepth 20000 in
theorem mi12_begins : Cond.instanceMethod y12_begins ∈ xG := xG_k xT_6 176 rfl rfl
set_option maxRecDepth 20000 in
theorem me12_begins : Cond.selects y12_begins.cls y12_begins y12_begins ∈ xG := xG_s xV_3 11 rfl
set_option maxRecDepth 20000 in
theorem mf12_readGuest : xmf y12_readGuest prog_14_method_28_code 7 none := ⟨xG_k xT_7 88 rfl rfl, xG_k xT_1 13 rfl rfl, ⟨by decide +kernel, by decide +kernel⟩, by decide +kernel⟩
set_option maxRecDepth 20000 in
theorem mi12_readGuest : Cond.instanceMethod y12_readGuest ∈ xG := xG_k xT_7 87 rfl rfl
set_option maxRecDepth 20000 in
theorem me12_readGuest : Cond.selects y12_readGuest.cls y12_readGuest y12_readGuest ∈ xG := xG_s xV_4 2 rfl
set_option maxRecDepth 20000 in
theorem mf12_readName : xmf y12_readName prog_14_method_29_code 5 none := ⟨xG_k xT_7 92 rfl rfl, xG_k xT_1 13 rfl rfl, ⟨by decide +kernel, by decide +kernel⟩, by decide +kernel⟩
set_option maxRecDepth 20000 in
theorem mi12_readName : Cond.instanceMethod y12_readName ∈ xG := xG_k xT_7 91 rfl rfl
set_option maxRecDepth 20000 in
theorem me12_readName : Cond.selects y12_readName.cls y12_readName y12_readName ∈ xG := xG_s xV_4 3 rfl
set_option maxRecDepth 20000 in
theorem mf12_takeAfter : xmf y12_takeAfter prog_14_method_20_code 4 (some .int) := ⟨xG_k xT_7 116 rfl rfl, xG_k xT_1 13 rfl rfl, ⟨by decide +kernel, by decide +kernel⟩, by decide +kernel⟩
set_option maxRecDepth 20000 in
theorem mi12_takeAfter : Cond.instanceMethod y12_takeAfter ∈ xG := xG_k xT_7 115 rfl rfl
set_option maxRecDepth 20000 in
theorem me12_takeAfter : Cond.selects y12_takeAfter.cls y12_takeAfter y12_takeAfter ∈ xG := xG_s xV_4 9 rfl
set_option maxRecDepth 20000 in
theorem mf12_readOnce : xmf y12_readOnce prog_14_method_30_code 2 none := ⟨xG_k xT_7 132 rfl rfl, xG_k xT_1 13 rfl rfl, ⟨by decide +kernel, by decide +kernel⟩, by decide +kernel⟩
set_option maxRecDepth 20000 in
theorem mi12_readOnce : Cond.instanceMethod y12_readOnce ∈ xG := xG_k xT_7 131 rfl rfl
set_option maxRecDepth 20000 in
theorem me12_readOnce : Cond.selects y12_readOnce.cls y12_readOnce y12_readOnce ∈ xG := xG_s xV_4 13 rfl
set_option maxRecDepth 20000 in
theorem mf12_takeOne : xmf y12_takeOne prog_14_method_22_code 4 (some .int) := ⟨xG_k xT_7 112 rfl rfl, xG_k xT_1 13 rfl rfl, ⟨by decide +kernel, by decide +kernel⟩, by decide +kernel⟩
set_option maxRecDepth 20000 in
theorem mi12_takeOne : Cond.instanceMethod y12_takeOne ∈ xG := xG_k xT_7 111 rfl rfl
set_option maxRecDepth 20000 in
theorem me12_takeOne : Cond.selects y12_takeOne.cls y12_takeOne y12_takeOne ∈ xG := xG_s xV_4 8 rfl
set_option maxRecDepth 20000 in
theorem mf12_whole : xmf y12_whole prog_14_method_34_code 3 none := ⟨xG_k xT_7 136 rfl rfl, xG_k xT_1 13 rfl rfl, ⟨by decide +kernel, by decide +kernel⟩, by decide +kernel⟩
set_option maxRecDepth 20000 in
theorem mi12_whole : Cond.instanceMethod y12_whole ∈ xG := xG_k xT_7 135 rfl rfl
set_option maxRecDepth 20000 in
theorem me12_whole : Cond.selects y12_whole.cls y12_whole y12_whole ∈ xG := xG_s xV_4 14 rfl
set_option maxRecDepth 20000 in
theorem mf12_emit : xmf y12_emit prog_14_method_33_code 3 none := ⟨xG_k xT_7 160 rfl rfl, xG_k xT_1 13 rfl rfl, ⟨by decide +kernel, by decide +kernel⟩, by decide +kernel⟩
set_option maxRecDepth 20000 in
theorem mi12_emit : Cond.instanceMethod y12_emit ∈ xG := xG_k xT_7 159 rfl rfl
set_option maxRecDepth 20000 in
theorem me12_emit : Cond.selects y12_emit.cls y12_emit y12_emit ∈ xG := xG_s xV_5 4 rfl
set_option maxRecDepth 20000 in
theorem mf12_readEvening : xmf y12_readEvening prog_14_method_32_code 3 none := ⟨xG_k xT_7 176 rfl rfl, xG_k xT_1 13 rfl rfl, ⟨by decide +kernel, by decide +kernel⟩, by decide +kernel⟩
set_option maxRecDepth 20000 in
theorem mi12_readEvening : Cond.instanceMethod y12_readEvening ∈ xG := xG_k xT_7 175 rfl rfl
set_option maxRecDepth 20000 in
theorem me12_readEvening : Cond.selects y12_readEvening.cls y12_readEvening y12_readEvening ∈ xG := xG_s xV_5 7 rfl
set_option maxRecDepth 20000 in
theorem mf12_takeTold : xmf y12_takeTold prog_14_method_25_code 3 (some .int) := ⟨xG_k xT_7 180 rfl rfl, xG_k xT_1 13 rfl rfl, ⟨by decide +kernel, by decide +kernel⟩, by decide +kernel⟩
set_option maxRecDepth 20000 in
theorem mi12_takeTold : Cond.instanceMethod y12_takeTold ∈ xG := xG_k xT_7 179 rfl rfl
set_option maxRecDepth 20000 in
theorem me12_takeTold : Cond.selects y12_takeTold.cls y12_takeTold y12_takeTold ∈ xG := xG_s xV_5 8 rfl
set_option maxRecDepth 20000 in
theorem mf12_test : xmf y12_test prog_14_method_35_code 3 none := ⟨xG_k xT_7 140 rfl rfl, xG_k xT_1 13 rfl rfl, ⟨by decide +kernel, by decide +kernel⟩, by decide +kernel⟩
set_option maxRecDepth 20000 in
theorem mi12_test : Cond.instanceMethod y12_test ∈ xG := xG_k xT_7 139 rfl rfl
set_option maxRecDepth 20000 in
theorem me12_test : Cond.selects y12_test.cls y12_test y12_test ∈ xG := xG_s xV_4 15 rfl
set_option maxRecDepth 20000 in
theorem mf12_sums : xmf y12_sums prog_14_method_36_code 3 none := ⟨xG_k xT_7 144 rfl rfl, xG_k xT_1 13 rfl rfl, ⟨by decide +kernel, by decide +kernel⟩, by decide +kernel⟩
set_option maxRecDepth 20000 in
theorem mi12_sums : Cond.instanceMethod y12_sums ∈ xG := xG_k xT_7 143 rfl rfl
set_option maxRecDepth 20000 in
theorem me12_sums : Cond.selects y12_sums.cls y12_sums y12_sums ∈ xG := xG_s xV_5 0 rfl
set_option maxRecDepth 20000 in
theorem mf12_hasSign : xmf y12_hasSign prog_14_method_14_code 3 (some .boolean) := ⟨xG_k xT_7 164 rfl rfl, xG_k xT_1 13 rfl rfl, ⟨by decide +kernel, by decide +kernel⟩, by decide +kernel⟩
set_option maxRecDepth 20000 in
theorem mi12_hasSign : Cond.instanceMethod y12_hasSign ∈ xG := xG_k xT_7 163 rfl rfl
set_option maxRecDepth 20000 in
theorem me12_hasSign : Cond.selects y12_hasSign.cls y12_hasSign y12_hasSign ∈ xG := xG_s xV_5 5 rfl
set_option maxRecDepth 20000 in
theorem mf12_products : xmf y12_products prog_14_method_37_code 2 none := ⟨xG_k xT_7 148 rfl rfl, xG_k xT_1 13 rfl rfl, ⟨by decide +kernel, by decide +kernel⟩, by decide +kernel⟩
set_option maxRecDepth 20000 in
theorem mi12_products : Cond.instanceMethod y12_products ∈ xG := xG_k xT_7 147 rfl rfl
set_option maxRecDepth 20000 in
theorem me12_products : Cond.selects y12_products.cls y12_products y12_products ∈ xG := xG_s xV_5 1 rfl
set_option maxRecDepth 20000 in
theorem mf12_takePart : xmf y12_takePart prog_14_method_38_code 4 none := ⟨xG_k xT_7 152 rfl rfl, xG_k xT_1 13 rfl rfl, ⟨by decide +kernel, by decide +kernel⟩, by decide +kernel⟩
set_option maxRecDepth 20000 in
theorem mi12_takePart : Cond.instanceMethod y12_takePart ∈ xG := xG_k xT_7 151 rfl rfl
set_option maxRecDepth 20000 in
theorem me12_takePart : Cond.selects y12_takePart.cls y12_takePart y12_takePart ∈ xG := xG_s xV_5 2 rfl
set_option maxRecDepth 20000 in
theorem mf12_both : xmf y12_both prog_14_method_40_code 3 (some .int) := ⟨xG_k xT_8 81 rfl rfl, xG_k xT_1 13 rfl rfl, ⟨by decide +kernel, by decide +kernel⟩, by decide +kernel⟩
set_option maxRecDepth 20000 in
theorem ms12_both : Cond.static y12_both ∈ xG := xG_k xT_8 80 rfl rfl
set_option maxRecDepth 20000 in
theorem mf12_guests : xmf y12_guests prog_14_method_45_code 1 (some .int) := ⟨xG_k xT_6 185 rfl rfl, xG_k xT_1 13 rfl rfl, ⟨by decide +kernel, by decide +kernel⟩, by decide +kernel⟩
set_option maxRecDepth 20000 in
theorem mi12_guests : Cond.instanceMethod y12_guests ∈ xG := xG_k xT_6 184 rfl rfl
set_option maxRecDepth 20000 in
theorem me12_guests : Cond.selects y12_guests.cls y12_guests y12_guests ∈ xG := xG_s xV_3 13 rfl
set_option maxRecDepth 20000 in
theorem mf12_guestOf : xmf y12_guestOf prog_14_method_48_code 3 (some .int) := ⟨xG_k xT_6 189 rfl rfl, xG_k xT_1 13 rfl rfl, ⟨by decide +kernel, by decide +kernel⟩, by decide +kernel⟩
set_option maxRecDepth 20000 in
theorem mi12_guestOf : Cond.instanceMethod y12_guestOf ∈ xG := xG_k xT_6 188 rfl rfl
set_option maxRecDepth 20000 in
theorem me12_guestOf : Cond.selects y12_guestOf.cls y12_guestOf y12_guestOf ∈ xG := xG_s xV_3 14 rfl
set_option maxRecDepth 20000 in
theorem mf12_starts : xmf y12_starts prog_14_method_42_code 3 none := ⟨xG_k xT_6 181 rfl rfl, xG_k xT_1 13 rfl rfl, ⟨by decide +kernel, by decide +kernel⟩, by decide +kernel⟩
set_option maxRecDepth 20000 in
theorem mi12_starts : Cond.instanceMethod y12_starts ∈ xG := xG_k xT_6 180 rfl rfl
set_option maxRecDepth 20000 in
theorem me12_starts : Cond.selects y12_starts.cls y12_starts y12_starts ∈ xG := xG_s xV_3 12 rfl
set_option maxRecDepth 20000 in
theorem mf12_copies : xmf y12_copies prog_14_method_41_code 5 none := ⟨xG_k xT_8 23 rfl rfl, xG_k xT_1 13 rfl rfl, ⟨by decide +kernel, by decide +kernel⟩, by decide +kernel⟩
set_option maxRecDepth 20000 in
theorem mi12_copies : Cond.instanceMethod y12_copies ∈ xG := xG_k xT_8 22 rfl rfl
set_option maxRecDepth 20000 in
theorem me12_copies : Cond.selects y12_copies.cls y12_copies y12_copies ∈ xG := xG_s xV_6 8 rfl
set_option maxRecDepth 20000 in
theorem mf12_belts : xmf y12_belts prog_14_method_46_code 1 (some .int) := ⟨xG_k xT_7 207 rfl rfl, xG_k xT_1 13 rfl rfl, ⟨by decide +kernel, by decide +kernel⟩, by decide +kernel⟩
set_option maxRecDepth 20000 in
theorem mi12_belts : Cond.instanceMethod y12_belts ∈ xG := xG_k xT_7 206 rfl rfl
set_option maxRecDepth 20000 in
theorem me12_belts : Cond.selects y12_belts.cls y12_belts y12_belts ∈ xG := xG_s xV_5 12 rfl
set_option maxRecDepth 20000 in
theorem mf12_men : xmf y12_men prog_14_method_47_code 1 (some .int) := ⟨xG_k xT_7 223 rfl rfl, xG_k xT_1 13 rfl rfl, ⟨by decide +kernel, by decide +kernel⟩, by decide +kernel⟩
set_option maxRecDepth 20000 in
theorem mi12_men : Cond.instanceMethod y12_men ∈ xG := xG_k xT_7 222 rfl rfl
set_option maxRecDepth 20000 in
theorem me12_men : Cond.selects y12_men.cls y12_men y12_men ∈ xG := xG_s xV_5 15 rfl
set_option maxRecDepth 20000 in
theorem mf12_bearsOf : xmf y12_bearsOf prog_14_method_49_code 2 (some .int) := ⟨xG_k xT_7 211 rfl rfl, xG_k xT_1 13 rfl rfl, ⟨by decide +kernel, by decide +kernel⟩, by decide +kernel⟩
set_option maxRecDepth 20000 in
theorem mi12_bearsOf : Cond.instanceMethod y12_bearsOf ∈ xG := xG_k xT_7 210 rfl rfl
set_option maxRecDepth 20000 in
theorem me12_bearsOf : Cond.selects y12_bearsOf.cls y12_bearsOf y12_bearsOf ∈ xG := xG_s xV_5 13 rfl
set_option maxRecDepth 20000 in
theorem mf12_weightOf : xmf y12_weightOf prog_14_method_55_code 2 (some .int) := ⟨xG_k xT_7 195 rfl rfl, xG_k xT_1 13 rfl rfl, ⟨by decide +kernel, by decide +kernel⟩, by decide +kernel⟩
set_option maxRecDepth 20000 in
theorem mi12_weightOf : Cond.instanceMethod y12_weightOf ∈ xG := xG_k xT_7 194 rfl rfl
set_option maxRecDepth 20000 in
theorem me12_weightOf : Cond.selects y12_weightOf.cls y12_weightOf y12_weightOf ∈ xG := xG_s xV_5 10 rfl
set_option maxRecDepth 20000 in
theorem mf12_isIn : xmf y12_isIn prog_14_method_57_code 3 (some .boolean) := ⟨xG_k xT_8 7 rfl rfl, xG_k xT_1 13 rfl rfl, ⟨by decide +kernel, by decide +kernel⟩, by decide +kernel⟩
set_option maxRecDepth 20000 in
theorem mi12_isIn : Cond.instanceMethod y12_isIn ∈ xG := xG_k xT_8 6 rfl rfl
set_option maxRecDepth 20000 in
theorem me12_isIn : Cond.selects y12_isIn.cls y12_isIn y12_isIn ∈ xG := xG_s xV_6 4 rfl
set_option maxRecDepth 20000 in
theorem mf12_doesBear : xmf y12_doesBear prog_14_method_56_code 3 (some .boolean) := ⟨xG_k xT_8 67 rfl rfl, xG_k xT_1 13 rfl rfl, ⟨by decide +kernel, by decide +kernel⟩, by decide +kernel⟩
set_option maxRecDepth 20000 in
theorem mi12_doesBear : Cond.instanceMethod y12_doesBear ∈ xG := xG_k xT_8 66 rfl rfl
set_option maxRecDepth 20000 in
theorem me12_doesBear : Cond.selects y12_doesBear.cls y12_doesBear y12_doesBear ∈ xG := xG_s xV_7 0 rfl
set_option maxRecDepth 20000 in
theorem mf12_doesCry : xmf y12_doesCry prog_14_method_60_code 3 (some .boolean) := ⟨xG_k xT_8 109 rfl rfl, xG_k xT_1 13 rfl rfl, ⟨by decide +kernel, by decide +kernel⟩, by decide +kernel⟩
set_option maxRecDepth 20000 in
theorem mi12_doesCry : Cond.instanceMethod y12_doesCry ∈ xG := xG_k xT_8 108 rfl rfl
set_option maxRecDepth 20000 in
theorem me12_doesCry : Cond.selects y12_doesCry.cls y12_doesCry y12_doesCry ∈ xG := xG_s xV_7 5 rfl
set_option maxRecDepth 20000 in
theorem mf12_manOf : xmf y12_manOf prog_14_method_50_code 3 (some .int) := ⟨xG_k xT_7 227 rfl rfl, xG_k xT_1 13 rfl rfl, ⟨by decide +kernel, by decide +kernel⟩, by decide +kernel⟩
set_option maxRecDepth 20000 in
theorem mi12_manOf : Cond.instanceMethod y12_manOf ∈ xG := xG_k xT_7 226 rfl rfl
set_option maxRecDepth 20000 in
theorem me12_manOf : Cond.selects y12_manOf.cls y12_manOf y12_manOf ∈ xG := xG_s xV_6 0 rfl
set_option maxRecDepth 20000 in
theorem mf12_isFree : xmf y12_isFree prog_14_method_63_code 3 (some .boolean) := ⟨xG_k xT_7 231 rfl rfl, xG_k xT_1 13 rfl rfl, ⟨by decide +kernel, by decide +kernel⟩, by decide +kernel⟩
set_option maxRecDepth 20000 in
theorem mi12_isFree : Cond.instanceMethod y12_isFree ∈ xG := xG_k xT_7 230 rfl rfl
set_option maxRecDepth 20000 in
theorem me12_isFree : Cond.selects y12_isFree.cls y12_isFree y12_isFree ∈ xG := xG_s xV_6 1 rfl
set_option maxRecDepth 20000 in
theorem mf12_gapTo : xmf y12_gapTo prog_14_method_64_code 5 (some .int) := ⟨xG_k xT_8 11 rfl rfl, xG_k xT_1 13 rfl rfl, ⟨by decide +kernel, by decide +kernel⟩, by decide +kernel⟩
set_option maxRecDepth 20000 in
theorem mi12_gapTo : Cond.instanceMethod y12_gapTo ∈ xG := xG_k xT_8 10 rfl rfl
set_option maxRecDepth 20000 in
theorem me12_gapTo : Cond.selects y12_gapTo.cls y12_gapTo y12_gapTo ∈ xG := xG_s xV_6 5 rfl
set_option maxRecDepth 20000 in
theorem mf12_couldCast : xmf y12_couldCast prog_14_method_65_code 4 (some .boolean) := ⟨xG_k xT_8 3 rfl rfl, xG_k xT_1 13 rfl rfl, ⟨by decide +kernel, by decide +kernel⟩, by decide +kernel⟩
set_option maxRecDepth 20000 in
theorem mi12_couldCast : Cond.instanceMethod y12_couldCast ∈ xG := xG_k xT_8 2 rfl rfl
set_option maxRecDepth 20000 in
theorem me12_couldCast : Cond.selects y12_couldCast.cls y12_couldCast y12_couldCast ∈ xG := xG_s xV_6 3 rfl
set_option maxRecDepth 20000 in
theorem mf12_wall : xmf y12_wall prog_14_method_62_code 4 (some .int) := ⟨xG_k xT_8 15 rfl rfl, xG_k xT_1 13 rfl rfl, ⟨by decide +kernel, by decide +kernel⟩, by decide +kernel⟩
set_option maxRecDepth 20000 in
theorem mi12_wall : Cond.instanceMethod y12_wall ∈ xG := xG_k xT_8 14 rfl rfl
set_option maxRecDepth 20000 in
theorem me12_wall : Cond.selects y12_wall.cls y12_wall y12_wall ∈ xG := xG_s xV_6 6 rfl
set_option maxRecDepth 20000 in
theorem mf12_isUnder : xmf y12_isUnder prog_14_method_59_code 6 (some .boolean) := ⟨xG_k xT_8 63 rfl rfl, xG_k xT_1 13 rfl rfl, ⟨by decide +kernel, by decide +kernel⟩, by decide +kernel⟩
set_option maxRecDepth 20000 in
theorem mi12_isUnder : Cond.instanceMethod y12_isUnder ∈ xG := xG_k xT_8 62 rfl rfl
set_option maxRecDepth 20000 in
theorem me12_isUnder : Cond.selects y12_isUnder.cls y12_isUnder y12_isUnder ∈ xG := xG_s xV_6 15 rfl
set_option maxRecDepth 20000 in
theorem mf12_who : xmf y12_who prog_14_method_58_code 5 (some .int) := ⟨xG_k xT_8 55 rfl rfl, xG_k xT_1 13 rfl rfl, ⟨by decide +kernel, by decide +kernel⟩, by decide +kernel⟩
set_option maxRecDepth 20000 in
theorem mi12_who : Cond.instanceMethod y12_who ∈ xG := xG_k xT_8 54 rfl rfl
set_option maxRecDepth 20000 in
theorem me12_who : Cond.selects y12_who.cls y12_who y12_who ∈ xG := xG_s xV_6 13 rfl
set_option maxRecDepth 20000 in
theorem mf12_breathes : xmf y12_breathes prog_14_method_70_code 3 none := ⟨xG_k xT_8 59 rfl rfl, xG_k xT_1 13 rfl rfl, ⟨by decide +kernel, by decide +kernel⟩, by decide +kernel⟩
set_option maxRecDepth 20000 in
theorem mi12_breathes : Cond.instanceMethod y12_breathes ∈ xG := xG_k xT_8 58 rfl rfl
set_option maxRecDepth 20000 in
theorem me12_breathes : Cond.selects y12_breathes.cls y12_breathes y12_breathes ∈ xG := xG_s xV_6 14 rfl
set_option maxRecDepth 20000 in
theorem mf12_drawsIn : xmf y12_drawsIn prog_14_method_71_code 3 none := ⟨xG_k xT_8 71 rfl rfl, xG_k xT_1 13 rfl rfl, ⟨by decide +kernel, by decide +kernel⟩, by decide +kernel⟩
set_option maxRecDepth 20000 in
theorem mi12_drawsIn : Cond.instanceMethod y12_drawsIn ∈ xG := xG_k xT_8 70 rfl rfl
set_option maxRecDepth 20000 in
theorem me12_drawsIn : Cond.selects y12_drawsIn.cls y12_drawsIn y12_drawsIn ∈ xG := xG_s xV_7 1 rfl
set_option maxRecDepth 20000 in
theorem mf12_bits : xmf y12_bits prog_14_method_54_code 3 (some .int) := ⟨xG_k xT_8 74 rfl rfl, xG_k xT_1 13 rfl rfl, ⟨by decide +kernel, by decide +kernel⟩, by decide +kernel⟩
set_option maxRecDepth 20000 in
theorem ms12_bits : Cond.static y12_bits ∈ xG := xG_k xT_8 73 rfl rfl
set_option maxRecDepth 20000 in
theorem mf12_worthAt : xmf y12_worthAt prog_14_method_39_code 5 (some .int) := ⟨xG_k xT_8 78 rfl rfl, xG_k xT_1 13 rfl rfl, ⟨by decide +kernel, by decide +kernel⟩, by decide +kernel⟩
set_option maxRecDepth 20000 in
theorem mi12_worthAt : Cond.instanceMethod y12_worthAt ∈ xG := xG_k xT_8 77 rfl rfl
set_option maxRecDepth 20000 in
theorem me12_worthAt : Cond.selects y12_worthAt.cls y12_worthAt y12_worthAt ∈ xG := xG_s xV_7 2 rfl
set_option maxRecDepth 20000 in
theorem mf12_isGuest : xmf y12_isGuest prog_14_method_51_code 2 (some .boolean) := ⟨xG_k xT_7 191 rfl rfl, xG_k xT_1 13 rfl rfl, ⟨by decide +kernel, by decide +kernel⟩, by decide +kernel⟩
set_option maxRecDepth 20000 in
theorem mi12_isGuest : Cond.instanceMethod y12_isGuest ∈ xG := xG_k xT_7 190 rfl rfl
set_option maxRecDepth 20000 in
theorem me12_isGuest : Cond.selects y12_isGuest.cls y12_isGuest y12_isGuest ∈ xG := xG_s xV_5 9 rfl
set_option maxRecDepth 20000 in
theorem mf12_isBelt : xmf y12_isBelt prog_14_method_52_code 2 (some .boolean) := ⟨xG_k xT_7 203 rfl rfl, xG_k xT_1 13 rfl rfl, ⟨by decide +kernel, by decide +kernel⟩, by decide +kernel⟩
set_option maxRecDepth 20000 in
theorem mi12_isBelt : Cond.instanceMethod y12_isBelt ∈ xG := xG_k xT_7 202 rfl rfl
set_option maxRecDepth 20000 in
theorem me12_isBelt : Cond.selects y12_isBelt.cls y12_isBelt y12_isBelt ∈ xG := xG_s xV_5 11 rfl
set_option maxRecDepth 20000 in
theorem mf12_isMan : xmf y12_isMan prog_14_method_53_code 2 (some .boolean) := ⟨xG_k xT_7 219 rfl rfl, xG_k xT_1 13 rfl rfl, ⟨by decide +kernel, by decide +kernel⟩, by decide +kernel⟩
set_option maxRecDepth 20000 in
theorem mi12_isMan : Cond.instanceMethod y12_isMan ∈ xG := xG_k xT_7 218 rfl rfl
set_option maxRecDepth 20000 in
theorem me12_isMan : Cond.selects y12_isMan.cls y12_isMan y12_isMan ∈ xG := xG_s xV_5 14 rfl
set_option maxRecDepth 20000 in
theorem mf12_mayCast : xmf y12_mayCast prog_14_method_66_code 5 (some .boolean) := ⟨xG_k xT_7 239 rfl rfl, xG_k xT_1 13 rfl rfl, ⟨by decide +kernel, by decide +kernel⟩, by decide +kernel⟩
set_option maxRecDepth 20000 in
theorem mi12_mayCast : Cond.instanceMethod y12_mayCast ∈ xG := xG_k xT_7 238 rfl rfl
set_option maxRecDepth 20000 in
theorem me12_mayCast : Cond.selects y12_mayCast.cls y12_mayCast y12_mayCast ∈ xG := xG_s xV_6 2 rfl
set_option maxRecDepth 20000 in
theorem mf12_keeps : xmf y12_keeps prog_14_method_44_code 2 none := ⟨xG_k xT_8 19 rfl rfl, xG_k xT_1 13 rfl rfl, ⟨by decide +kernel, by decide +kernel⟩, by decide +kernel⟩
set_option maxRecDepth 20000 in
theorem mi12_keeps : Cond.instanceMethod y12_keeps ∈ xG := xG_k xT_8 18 rfl rfl
set_option maxRecDepth 20000 in
theorem me12_keeps : Cond.selects y12_keeps.cls y12_keeps y12_keeps ∈ xG := xG_s xV_6 7 rfl
set_option maxRecDepth 20000 in
theorem mf12_casts : xmf y12_casts prog_14_method_67_code 5 none := ⟨xG_k xT_8 27 rfl rfl, xG_k xT_1 13 rfl rfl, ⟨by decide +kernel, by decide +kernel⟩, by decide +kernel⟩
set_option maxRecDepth 20000 in
theorem mi12_casts : Cond.instanceMethod y12_casts ∈ xG := xG_k xT_8 26 rfl rfl
set_option maxRecDepth 20000 in
theorem me12_casts : Cond.selects y12_casts.cls y12_casts y12_casts ∈ xG := xG_s xV_6 9 rfl
set_option maxRecDepth 20000 in
theorem mf12_mayStop : xmf y12_mayStop prog_14_method_68_code 3 (some .boolean) := ⟨xG_k xT_8 39 rfl rfl, xG_k xT_1 13 rfl rfl, ⟨by decide +kernel, by decide +kernel⟩, by decide +kernel⟩
set_option maxRecDepth 20000 in
theorem mi12_mayStop : Cond.instanceMethod y12_mayStop ∈ xG := xG_k xT_8 38 rfl rfl
set_option maxRecDepth 20000 in
theorem me12_mayStop : Cond.selects y12_mayStop.cls y12_mayStop y12_mayStop ∈ xG := xG_s xV_6 10 rfl
set_option maxRecDepth 20000 in
theorem mf12_stops : xmf y12_stops prog_14_method_69_code 3 none := ⟨xG_k xT_8 43 rfl rfl, xG_k xT_1 13 rfl rfl, ⟨by decide +kernel, by decide +kernel⟩, by decide +kernel⟩
set_option maxRecDepth 20000 in
theorem mi12_stops : Cond.instanceMethod y12_stops ∈ xG := xG_k xT_8 42 rfl rfl
set_option maxRecDepth 20000 in
theorem me12_stops : Cond.selects y12_stops.cls y12_stops y12_stops ∈ xG := xG_s xV_6 11 rfl
set_option maxRecDepth 20000 in
theorem mf12_passes : xmf y12_passes prog_14_method_72_code 5 (some .int) := ⟨xG_k xT_8 51 rfl rfl, xG_k xT_1 13 rfl rfl, ⟨by decide +kernel, by decide +kernel⟩, by decide +kernel⟩
set_option maxRecDepth 20000 in
theorem mi12_passes : Cond.instanceMethod y12_passes ∈ xG := xG_k xT_8 50 rfl rfl
set_option maxRecDepth 20000 in
theorem me12_passes : Cond.selects y12_passes.cls y12_passes y12_passes ∈ xG := xG_s xV_6 12 rfl
set_option maxRecDepth 20000 in
theorem mf12_underNow : xmf y12_underNow prog_14_method_83_code 3 (some .int) := ⟨xG_k xT_8 97 rfl rfl, xG_k xT_1 13 rfl rfl, ⟨by decide +kernel, by decide +kernel⟩, by decide +kernel⟩
set_option maxRecDepth 20000 in
theorem mi12_underNow : Cond.instanceMethod y12_underNow ∈ xG := xG_k xT_8 96 rfl rfl
set_option maxRecDepth 20000 in
theorem me12_underNow : Cond.selects y12_underNow.cls y12_underNow y12_underNow ∈ xG := xG_s xV_7 3 rfl
set_option maxRecDepth 20000 in
theorem mf12_criers : xmf y12_criers prog_14_method_61_code 4 (some .int) := ⟨xG_k xT_8 105 rfl rfl, xG_k xT_1 13 rfl rfl, ⟨by decide +kernel, by decide +kernel⟩, by decide +kernel⟩
set_option maxRecDepth 20000 in
theorem mi12_criers : Cond.instanceMethod y12_criers ∈ xG := xG_k xT_8 104 rfl rfl
set_option maxRecDepth 20000 in
theorem me12_criers : Cond.selects y12_criers.cls y12_criers y12_criers ∈ xG := xG_s xV_7 4 rfl
set_option maxRecDepth 20000 in
theorem mf12_triesNow : xmf y12_triesNow prog_14_method_82_code 1 none := ⟨xG_k xT_8 117 rfl rfl, xG_k xT_1 13 rfl rfl, ⟨by decide +kernel, by decide +kernel⟩, by decide +kernel⟩
set_option maxRecDepth 20000 in
theorem mi12_triesNow : Cond.instanceMethod y12_triesNow ∈ xG := xG_k xT_8 116 rfl rfl
set_option maxRecDepth 20000 in
theorem me12_triesNow : Cond.selects y12_triesNow.cls y12_triesNow y12_triesNow ∈ xG := xG_s xV_7 6 rfl
set_option maxRecDepth 20000 in
theorem mf12_becomes : xmf y12_becomes prog_14_method_88_code 4 (some .int) := ⟨xG_k xT_8 133 rfl rfl, xG_k xT_1 13 rfl rfl, ⟨by decide +kernel, by decide +kernel⟩, by decide +kernel⟩
set_option maxRecDepth 20000 in
theorem mi12_becomes : Cond.instanceMethod y12_becomes ∈ xG := xG_k xT_8 132 rfl rfl
set_option maxRecDepth 20000 in
theorem me12_becomes : Cond.selects y12_becomes.cls y12_becomes y12_becomes ∈ xG := xG_s xV_7 8 rfl
set_option maxRecDepth 20000 in
theorem mf12_sinksIn : xmf y12_sinksIn prog_14_method_89_code 2 (some .int) := ⟨xG_k xT_8 129 rfl rfl, xG_k xT_1 13 rfl rfl, ⟨by decide +kernel, by decide +kernel⟩, by decide +kernel⟩
set_option maxRecDepth 20000 in
theorem mi12_sinksIn : Cond.instanceMethod y12_sinksIn ∈ xG := xG_k xT_8 128 rfl rfl
set_option maxRecDepth 20000 in
theorem me12_sinksIn : Cond.selects y12_sinksIn.cls y12_sinksIn y12_sinksIn ∈ xG := xG_s xV_7 7 rfl
set_option maxRecDepth 20000 in
theorem mf12_fitsOf : xmf y12_fitsOf prog_14_method_96_code 4 (some .int) := ⟨xG_k xT_8 161 rfl rfl, xG_k xT_1 13 rfl rfl, ⟨by decide +kernel, by decide +kernel⟩, by decide +kernel⟩
set_option maxRecDepth 20000 in
theorem mi12_fitsOf : Cond.instanceMethod y12_fitsOf ∈ xG := xG_k xT_8 160 rfl rfl
set_option maxRecDepth 20000 in
theorem me12_fitsOf : Cond.selects y12_fitsOf.cls y12_fitsOf y12_fitsOf ∈ xG := xG_s xV_7 9 rfl
set_option maxRecDepth 20000 in
theorem mf12_beltsFrom : xmf y12_beltsFrom prog_14_method_99_code 4 (some .boolean) := ⟨xG_k xT_8 177 rfl rfl, xG_k xT_1 13 rfl rfl, ⟨by decide +kernel, by decide +kernel⟩, by decide +kernel⟩
set_option maxRecDepth 20000 in
theorem mi12_beltsFrom : Cond.instanceMethod y12_beltsFrom ∈ xG := xG_k xT_8 176 rfl rfl
set_option maxRecDepth 20000 in
theorem me12_beltsFrom : Cond.selects y12_beltsFrom.cls y12_beltsFrom y12_beltsFrom ∈ xG := xG_s xV_7 11 rfl
set_option maxRecDepth 20000 in
theorem mf12_castsFrom : xmf y12_castsFrom prog_14_method_100_code 4 none := ⟨xG_k xT_8 173 rfl rfl, xG_k xT_1 13 rfl rfl, ⟨by decide +kernel, by decide +kernel⟩, by decide +kernel⟩
set_option maxRecDepth 20000 in
theorem mi12_castsFrom : Cond.instanceMethod y12_castsFrom ∈ xG := xG_k xT_8 172 rfl rfl
set_option maxRecDepth 20000 in
theorem me12_castsFrom : Cond.selects y12_castsFrom.cls y12_castsFrom y12_castsFrom ∈ xG := xG_s xV_7 10 rfl
set_option maxRecDepth 20000 in
theorem mf12_doesHold : xmf y12_doesHold prog_14_method_103_code 5 (some .boolean) := ⟨xG_k xT_8 189 rfl rfl, xG_k xT_1 13 rfl rfl, ⟨by decide +kernel, by decide +kernel⟩, by decide +kernel⟩
set_option maxRecDepth 20000 in
theorem mi12_doesHold : Cond.instanceMethod y12_doesHold ∈ xG := xG_k xT_8 188 rfl rfl
set_option maxRecDepth 20000 in
theorem me12_doesHold : Cond.selects y12_doesHold.cls y12_doesHold y12_doesHold ∈ xG := xG_s xV_7 12 rfl
set_option maxRecDepth 20000 in
theorem mf12_bearOf : xmf y12_bearOf prog_14_method_104_code 4 (some .int) := ⟨xG_k xT_8 193 rfl rfl, xG_k xT_1 13 rfl rfl, ⟨by decide +kernel, by decide +kernel⟩, by decide +kernel⟩
set_option maxRecDepth 20000 in
theorem mi12_bearOf : Cond.instanceMethod y12_bearOf ∈ xG := xG_k xT_8 192 rfl rfl
set_option maxRecDepth 20000 in
theorem me12_bearOf : Cond.selects y12_bearOf.cls y12_bearOf y12_bearOf ∈ xG := xG_s xV_7 13 rfl
set_option maxRecDepth 20000 in
theorem mf12_enoughFor : xmf y12_enoughFor prog_14_method_106_code 4 (some .int) := ⟨xG_k xT_8 201 rfl rfl, xG_k xT_1 13 rfl rfl, ⟨by decide +kernel, by decide +kernel⟩, by decide +kernel⟩
set_option maxRecDepth 20000 in
theorem mi12_enoughFor : Cond.instanceMethod y12_enoughFor ∈ xG := xG_k xT_8 200 rfl rfl
set_option maxRecDepth 20000 in
theorem me12_enoughFor : Cond.selects y12_enoughFor.cls y12_enoughFor y12_enoughFor ∈ xG := xG_s xV_7 14 rfl
set_option maxRecDepth 20000 in
theorem mf12_doesSave : xmf y12_doesSave prog_14_method_110_code 4 (some .boolean) := ⟨xG_k xT_8 217 rfl rfl, xG_k xT_1 13 rfl rfl, ⟨by decide +kernel, by decide +kernel⟩, by decide +kernel⟩
set_option maxRecDepth 20000 in
theorem mi12_doesSave : Cond.instanceMethod y12_doesSave ∈ xG := xG_k xT_8 216 rfl rfl
set_option maxRecDepth 20000 in
theorem me12_doesSave : Cond.selects y12_doesSave.cls y12_doesSave y12_doesSave ∈ xG := xG_s xV_7 15 rfl
set_option maxRecDepth 20000 in
theorem mf12_manyAt : xmf y12_manyAt prog_14_method_115_code 4 (some .int) := ⟨xG_k xT_9 1 rfl rfl, xG_k xT_1 13 rfl rfl, ⟨by decide +kernel, by decide +kernel⟩, by decide +kernel⟩
set_option maxRecDepth 20000 in
theorem mi12_manyAt : Cond.instanceMethod y12_manyAt ∈ xG := xG_k xT_9 0 rfl rfl
set_option maxRecDepth 20000 in
theorem me12_manyAt : Cond.selects y12_manyAt.cls y12_manyAt y12_manyAt ∈ xG := xG_s xV_8 1 rfl
set_option maxRecDepth 20000 in
theorem mf12_denseNow : xmf y12_denseNow prog_14_method_116_code 3 (some .int) := ⟨xG_k xT_8 237 rfl rfl, xG_k xT_1 13 rfl rfl, ⟨by decide +kernel, by decide +kernel⟩, by decide +kernel⟩
set_option maxRecDepth 20000 in
theorem mi12_denseNow : Cond.instanceMethod y12_denseNow ∈ xG := xG_k xT_8 236 rfl rfl
set_option maxRecDepth 20000 in
theorem me12_denseNow : Cond.selects y12_denseNow.cls y12_denseNow y12_denseNow ∈ xG := xG_s xV_8 0 rfl
set_option maxRecDepth 20000 in
theorem mf12_depthsNow : xmf y12_depthsNow prog_14_method_121_code 3 none := ⟨xG_k xT_9 25 rfl rfl, xG_k xT_1 13 rfl rfl, ⟨by decide +kernel, by decide +kernel⟩, by decide +kernel⟩
set_option maxRecDepth 20000 in
theorem mi12_depthsNow : Cond.instanceMethod y12_depthsNow ∈ xG := xG_k xT_9 24 rfl rfl
set_option maxRecDepth 20000 in
theorem me12_depthsNow : Cond.selects y12_depthsNow.cls y12_depthsNow y12_depthsNow ∈ xG := xG_s xV_8 3 rfl
set_option maxRecDepth 20000 in
theorem mf12_holesNow : xmf y12_holesNow prog_14_method_122_code 6 (some .int) := ⟨xG_k xT_9 21 rfl rfl, xG_k xT_1 13 rfl rfl, ⟨by decide +kernel, by decide +kernel⟩, by decide +kernel⟩
set_option maxRecDepth 20000 in
theorem mi12_holesNow : Cond.instanceMethod y12_holesNow ∈ xG := xG_k xT_9 20 rfl rfl
set_option maxRecDepth 20000 in
theorem me12_holesNow : Cond.selects y12_holesNow.cls y12_holesNow y12_holesNow ∈ xG := xG_s xV_8 2 rfl
set_option maxRecDepth 20000 in
theorem mf12_getsBy : xmf y12_getsBy prog_14_method_126_code 5 (some .int) := ⟨xG_k xT_9 41 rfl rfl, xG_k xT_1 13 rfl rfl, ⟨by decide +kernel, by decide +kernel⟩, by decide +kernel⟩
set_option maxRecDepth 20000 in
theorem ms12_getsBy : Cond.static y12_getsBy ∈ xG := xG_k xT_9 40 rfl rfl
set_option maxRecDepth 20000 in
theorem mf12_draw : xmf y12_draw prog_14_method_128_code 2 (some .int) := ⟨xG_k xT_9 53 rfl rfl, xG_k xT_1 13 rfl rfl, ⟨by decide +kernel, by decide +kernel⟩, by decide +kernel⟩
set_option maxRecDepth 20000 in
theorem mi12_draw : Cond.instanceMethod y12_draw ∈ xG := xG_k xT_9 52 rfl rfl
set_option maxRecDepth 20000 in
theorem me12_draw : Cond.selects y12_draw.cls y12_draw y12_draw ∈ xG := xG_s xV_8 5 rfl
set_option maxRecDepth 20000 in
theorem mf12_drawsDeed : xmf y12_drawsDeed prog_14_method_129_code 5 (some .boolean) := ⟨xG_k xT_9 49 rfl rfl, xG_k xT_1 13 rfl rfl, ⟨by decide +kernel, by decide +kernel⟩, by decide +kernel⟩
set_option maxRecDepth 20000 in
theorem mi12_drawsDeed : Cond.instanceMethod y12_drawsDeed ∈ xG := xG_k xT_9 48 rfl rfl
set_option maxRecDepth 20000 in
theorem me12_drawsDeed : Cond.selects y12_drawsDeed.cls y12_drawsDeed y12_drawsDeed ∈ xG := xG_s xV_8 4 rfl
set_option maxRecDepth 20000 in
theorem mf11_feed : xmf y11_feed prog_1_method_2_code 7 (some .int) := ⟨xG_k xT_2 188 rfl rfl, xG_k xT_1 1 rfl rfl, ⟨by decide +kernel, by decide +kernel⟩, by decide +kernel⟩
set_option maxRecDepth 20000 in
theorem mi11_feed : Cond.instanceMethod y11_feed ∈ xG := xG_k xT_2 186 rfl rfl
set_option maxRecDepth 20000 in
theorem me11_feed : Cond.selects y11_feed.cls y11_feed y11_feed ∈ xG := xG_k xT_2 187 rfl rfl
set_option maxRecDepth 20000 in
theorem mf12_feed : xmf y12_feed prog_14_method_2_code 7 (some .int) := ⟨xG_k xT_6 132 rfl rfl, xG_k xT_1 13 rfl rfl, ⟨by decide +kernel, by decide +kernel⟩, by decide +kernel⟩
set_option maxRecDepth 20000 in
theorem mi12_feed : Cond.instanceMethod y12_feed ∈ xG := xG_k xT_6 130 rfl rfl
set_option maxRecDepth 20000 in
theorem me12_feed : Cond.selects y12_feed.cls y12_feed y12_feed ∈ xG := xG_k xT_6 131 rfl rfl
set_option maxRecDepth 20000 in
theorem mf11_room : xmf y11_room prog_1_method_3_code 2 (some .int) := ⟨xG_k xT_2 196 rfl rfl, xG_k xT_1 1 rfl rfl, ⟨by decide +kernel, by decide +kernel⟩, by decide +kernel⟩
set_option maxRecDepth 20000 in
theorem mi11_room : Cond.instanceMethod y11_room ∈ xG := xG_k xT_2 194 rfl rfl
set_option maxRecDepth 20000 in
theorem me11_room : Cond.selects y11_room.cls y11_room y11_room ∈ xG := xG_k xT_2 195 rfl rfl
set_option maxRecDepth 20000 in
theorem mf12_room : xmf y12_room prog_14_method_26_code 2 (some .int) := ⟨xG_k xT_7 57 rfl rfl, xG_k xT_1 13 rfl rfl, ⟨by decide +kernel, by decide +kernel⟩, by decide +kernel⟩
set_option maxRecDepth 20000 in
theorem mi12_room : Cond.instanceMethod y12_room ∈ xG := xG_k xT_7 55 rfl rfl
set_option maxRecDepth 20000 in
theorem me12_room : Cond.selects y12_room.cls y12_room y12_room ∈ xG := xG_k xT_7 56 rfl rfl
set_option maxRecDepth 20000 in
theorem mf11_evening : xmf y11_evening prog_1_method_5_code 2 (some .int) := ⟨xG_k xT_4 13 rfl rfl, xG_k xT_1 1 rfl rfl, ⟨by decide +kernel, by decide +kernel⟩, by decide +kernel⟩
set_option maxRecDepth 20000 in
theorem mi11_evening : Cond.instanceMethod y11_evening ∈ xG := xG_k xT_4 11 rfl rfl
set_option maxRecDepth 20000 in
theorem me11_evening : Cond.selects y11_evening.cls y11_evening y11_evening ∈ xG := xG_k xT_4 12 rfl rfl
set_option maxRecDepth 20000 in
theorem mf12_evening : xmf y12_evening prog_14_method_31_code 3 (some .int) := ⟨xG_k xT_7 172 rfl rfl, xG_k xT_1 13 rfl rfl, ⟨by decide +kernel, by decide +kernel⟩, by decide +kernel⟩
set_option maxRecDepth 20000 in
theorem mi12_evening : Cond.instanceMethod y12_evening ∈ xG := xG_k xT_7 170 rfl rfl
set_option maxRecDepth 20000 in
theorem me12_evening : Cond.selects y12_evening.cls y12_evening y12_evening ∈ xG := xG_k xT_7 171 rfl rfl
set_option maxRecDepth 20000 in
theorem mf11_guest : xmf y11_guest prog_1_method_6_code 3 (some .int) := ⟨xG_k xT_4 40 rfl rfl, xG_k xT_1 1 rfl rfl, ⟨by decide +kernel, by decide +kernel⟩, by decide +kernel⟩
set_option maxRecDepth 20000 in
theorem mi11_guest : Cond.instanceMethod y11_guest ∈ xG := xG_k xT_4 38 rfl rfl
set_option maxRecDepth 20000 in
theorem me11_guest : Cond.selects y11_guest.cls y11_guest y11_guest ∈ xG := xG_k xT_4 39 rfl rfl
set_option maxRecDepth 20000 in
theorem mf12_guest : xmf y12_guest prog_14_method_73_code 3 (some .int) := ⟨xG_k xT_7 187 rfl rfl, xG_k xT_1 13 rfl rfl, ⟨by decide +kernel, by decide +kernel⟩, by decide +kernel⟩
set_option maxRecDepth 20000 in
theorem mi12_guest : Cond.instanceMethod y12_guest ∈ xG := xG_k xT_7 185 rfl rfl
set_option maxRecDepth 20000 in
theorem me12_guest : Cond.selects y12_guest.cls y12_guest y12_guest ∈ xG := xG_k xT_7 186 rfl rfl
set_option maxRecDepth 20000 in
theorem mf11_belt : xmf y11_belt prog_1_method_7_code 3 (some .int) := ⟨xG_k xT_4 48 rfl rfl, xG_k xT_1 1 rfl rfl, ⟨by decide +kernel, by decide +kernel⟩, by decide +kernel⟩
set_option maxRecDepth 20000 in
theorem mi11_belt : Cond.instanceMethod y11_belt ∈ xG := xG_k xT_4 46 rfl rfl
set_option maxRecDepth 20000 in
theorem me11_belt : Cond.selects y11_belt.cls y11_belt y11_belt ∈ xG := xG_k xT_4 47 rfl rfl
set_option maxRecDepth 20000 in
theorem mf12_belt : xmf y12_belt prog_14_method_74_code 5 (some .int) := ⟨xG_k xT_7 199 rfl rfl, xG_k xT_1 13 rfl rfl, ⟨by decide +kernel, by decide +kernel⟩, by decide +kernel⟩
set_option maxRecDepth 20000 in
theorem mi12_belt : Cond.instanceMethod y12_belt ∈ xG := xG_k xT_7 197 rfl rfl
set_option maxRecDepth 20000 in
theorem me12_belt : Cond.selects y12_belt.cls y12_belt y12_belt ∈ xG := xG_k xT_7 198 rfl rfl
set_option maxRecDepth 20000 in
theorem mf11_man : xmf y11_man prog_1_method_8_code 3 (some .int) := ⟨xG_k xT_4 60 rfl rfl, xG_k xT_1 1 rfl rfl, ⟨by decide +kernel, by decide +kernel⟩, by decide +kernel⟩
set_option maxRecDepth 20000 in
theorem mi11_man : Cond.instanceMethod y11_man ∈ xG := xG_k xT_4 58 rfl rfl
set_option maxRecDepth 20000 in
theorem me11_man : Cond.selects y11_man.cls y11_man y11_man ∈ xG := xG_k xT_4 59 rfl rfl
set_option maxRecDepth 20000 in
theorem mf12_man : xmf y12_man prog_14_method_75_code 3 (some .int) := ⟨xG_k xT_7 215 rfl rfl, xG_k xT_1 13 rfl rfl, ⟨by decide +kernel, by decide +kernel⟩, by decide +kernel⟩
set_option maxRecDepth 20000 in
theorem mi12_man : Cond.instanceMethod y12_man ∈ xG := xG_k xT_7 213 rfl rfl
set_option maxRecDepth 20000 in
theorem me12_man : Cond.selects y12_man.cls y12_man y12_man ∈ xG := xG_k xT_7 214 rfl rfl
set_option maxRecDepth 20000 in
theorem mf11_cast : xmf y11_cast prog_1_method_9_code 4 (some .boolean) := ⟨xG_k xT_4 73 rfl rfl, xG_k xT_1 1 rfl rfl, ⟨by decide +kernel, by decide +kernel⟩, by decide +kernel⟩
set_option maxRecDepth 20000 in
theorem mi11_cast : Cond.instanceMethod y11_cast ∈ xG := xG_k xT_4 71 rfl rfl
set_option maxRecDepth 20000 in
theorem me11_cast : Cond.selects y11_cast.cls y11_cast y11_cast ∈ xG := xG_k xT_4 72 rfl rfl
set_option maxRecDepth 20000 in
theorem mf12_cast : xmf y12_cast prog_14_method_76_code 4 (some .boolean) := ⟨xG_k xT_7 235 rfl rfl, xG_k xT_1 13 rfl rfl, ⟨by decide +kernel, by decide +kernel⟩, by decide +kernel⟩
set_option maxRecDepth 20000 in
theorem mi12_cast : Cond.instanceMethod y12_cast ∈ xG := xG_k xT_7 233 rfl rfl
set_option maxRecDepth 20000 in
theorem me12_cast : Cond.selects y12_cast.cls y12_cast y12_cast ∈ xG := xG_k xT_7 234 rfl rfl
set_option maxRecDepth 20000 in
theorem mf11_ask : xmf y11_ask prog_1_method_10_code 1 (some .int) := ⟨xG_k xT_4 118 rfl rfl, xG_k xT_1 1 rfl rfl, ⟨by decide +kernel, by decide +kernel⟩, by decide +kernel⟩
set_option maxRecDepth 20000 in
theorem mi11_ask : Cond.instanceMethod y11_ask ∈ xG := xG_k xT_4 116 rfl rfl
set_option maxRecDepth 20000 in
theorem me11_ask : Cond.selects y11_ask.cls y11_ask y11_ask ∈ xG := xG_k xT_4 117 rfl rfl
set_option maxRecDepth 20000 in
theorem mf12_ask : xmf y12_ask prog_14_method_77_code 1 (some .int) := ⟨xG_k xT_8 31 rfl rfl, xG_k xT_1 13 rfl rfl, ⟨by decide +kernel, by decide +kernel⟩, by decide +kernel⟩
set_option maxRecDepth 20000 in
theorem mi12_ask : Cond.instanceMethod y12_ask ∈ xG := xG_k xT_8 29 rfl rfl
set_option maxRecDepth 20000 in
theorem me12_ask : Cond.selects y12_ask.cls y12_ask y12_ask ∈ xG := xG_k xT_8 30 rfl rfl
set_option maxRecDepth 20000 in
theorem mf11_stop : xmf y11_stop prog_1_method_11_code 2 (some .int) := ⟨xG_k xT_4 130 rfl rfl, xG_k xT_1 1 rfl rfl, ⟨by decide +kernel, by decide +kernel⟩, by decide +kernel⟩
set_option maxRecDepth 20000 in
theorem mi11_stop : Cond.instanceMethod y11_stop ∈ xG := xG_k xT_4 128 rfl rfl
set_option maxRecDepth 20000 in
theorem me11_stop : Cond.selects y11_stop.cls y11_stop y11_stop ∈ xG := xG_k xT_4 129 rfl rfl
set_option maxRecDepth 20000 in
theorem mf12_stop : xmf y12_stop prog_14_method_78_code 2 (some .int) := ⟨xG_k xT_8 35 rfl rfl, xG_k xT_1 13 rfl rfl, ⟨by decide +kernel, by decide +kernel⟩, by decide +kernel⟩
set_option maxRecDepth 20000 in
theorem mi12_stop : Cond.instanceMethod y12_stop ∈ xG := xG_k xT_8 33 rfl rfl
set_option maxRecDepth 20000 in
theorem me12_stop : Cond.selects y12_stop.cls y12_stop y12_stop ∈ xG := xG_k xT_8 34 rfl rfl
set_option maxRecDepth 20000 in
theorem mf11_minute : xmf y11_minute prog_1_method_12_code 1 (some .int) := ⟨xG_k xT_4 142 rfl rfl, xG_k xT_1 1 rfl rfl, ⟨by decide +kernel, by decide +kernel⟩, by decide +kernel⟩
set_option maxRecDepth 20000 in
theorem mi11_minute : Cond.instanceMethod y11_minute ∈ xG := xG_k xT_4 140 rfl rfl
set_option maxRecDepth 20000 in
theorem me11_minute : Cond.selects y11_minute.cls y11_minute y11_minute ∈ xG := xG_k xT_4 141 rfl rfl
set_option maxRecDepth 20000 in
theorem mf12_minute : xmf y12_minute prog_14_method_79_code 1 (some .int) := ⟨xG_k xT_8 47 rfl rfl, xG_k xT_1 13 rfl rfl, ⟨by decide +kernel, by decide +kernel⟩, by decide +kernel⟩
set_option maxRecDepth 20000 in
theorem mi12_minute : Cond.instanceMethod y12_minute ∈ xG := xG_k xT_8 45 rfl rfl
set_option maxRecDepth 20000 in
theorem me12_minute : Cond.selects y12_minute.cls y12_minute y12_minute ∈ xG := xG_k xT_8 46 rfl rfl
set_option maxRecDepth 20000 in
theorem mf11_undo : xmf y11_undo prog_1_method_13_code 1 (some .boolean) := ⟨xG_k xT_4 209 rfl rfl, xG_k xT_1 1 rfl rfl, ⟨by decide +kernel, by decide +kernel⟩, by decide +kernel⟩
set_option maxRecDepth 20000 in
theorem mi11_undo : Cond.instanceMethod y11_undo ∈ xG := xG_k xT_4 207 rfl rfl
set_option maxRecDepth 20000 in
theorem me11_undo : Cond.selects y11_undo.cls y11_undo y11_undo ∈ xG := xG_k xT_4 208 rfl rfl
set_option maxRecDepth 20000 in
theorem mf12_undo : xmf y12_undo prog_14_method_80_code 1 (some .boolean) := ⟨xG_k xT_8 85 rfl rfl, xG_k xT_1 13 rfl rfl, ⟨by decide +kernel, by decide +kernel⟩, by decide +kernel⟩
set_option maxRecDepth 20000 in
theorem mi12_undo : Cond.instanceMethod y12_undo ∈ xG := xG_k xT_8 83 rfl rfl
set_option maxRecDepth 20000 in
theorem me12_undo : Cond.selects y12_undo.cls y12_undo y12_undo ∈ xG := xG_k xT_8 84 rfl rfl
set_option maxRecDepth 20000 in
theorem mf11_judged : xmf y11_judged prog_1_method_14_code 2 (some .int) := ⟨xG_k xT_4 217 rfl rfl, xG_k xT_1 1 rfl rfl, ⟨by decide +kernel, by decide +kernel⟩, by decide +kernel⟩
set_option maxRecDepth 20000 in
theorem mi11_judged : Cond.instanceMethod y11_judged ∈ xG := xG_k xT_4 215 rfl rfl
set_option maxRecDepth 20000 in
theorem me11_judged : Cond.selects y11_judged.cls y11_judged y11_judged ∈ xG := xG_k xT_4 216 rfl rfl
set_option maxRecDepth 20000 in
theorem mf12_judged : xmf y12_judged prog_14_method_81_code 9 (some .int) := ⟨xG_k xT_8 89 rfl rfl, xG_k xT_1 13 rfl rfl, ⟨by decide +kernel, by decide +kernel⟩, by decide +kernel⟩
set_option maxRecDepth 20000 in
theorem mi12_judged : Cond.instanceMethod y12_judged ∈ xG := xG_k xT_8 87 rfl rfl
set_option maxRecDepth 20000 in
theorem me12_judged : Cond.selects y12_judged.cls y12_judged y12_judged ∈ xG := xG_k xT_8 88 rfl rfl
set_option maxRecDepth 20000 in
theorem mf11_under : xmf y11_under prog_1_method_15_code 3 (some .int) := ⟨xG_k xT_4 239 rfl rfl, xG_k xT_1 1 rfl rfl, ⟨by decide +kernel, by decide +kernel⟩, by decide +kernel⟩
set_option maxRecDepth 20000 in
theorem mi11_under : Cond.instanceMethod y11_under ∈ xG := xG_k xT_4 237 rfl rfl
set_option maxRecDepth 20000 in
theorem me11_under : Cond.selects y11_under.cls y11_under y11_under ∈ xG := xG_k xT_4 238 rfl rfl
set_option maxRecDepth 20000 in
theorem mf12_under : xmf y12_under prog_14_method_84_code 1 (some .int) := ⟨xG_k xT_8 93 rfl rfl, xG_k xT_1 13 rfl rfl, ⟨by decide +kernel, by decide +kernel⟩, by decide +kernel⟩
set_option maxRecDepth 20000 in
theorem mi12_under : Cond.instanceMethod y12_under ∈ xG := xG_k xT_8 91 rfl rfl
set_option maxRecDepth 20000 in
theorem me12_under : Cond.selects y12_under.cls y12_under y12_under ∈ xG := xG_k xT_8 92 rfl rfl
set_option maxRecDepth 20000 in
theorem mf11_cries : xmf y11_cries prog_1_method_16_code 1 (some .int) := ⟨xG_k xT_5 4 rfl rfl, xG_k xT_1 1 rfl rfl, ⟨by decide +kernel, by decide +kernel⟩, by decide +kernel⟩
set_option maxRecDepth 20000 in
theorem mi11_cries : Cond.instanceMethod y11_cries ∈ xG := xG_k xT_5 2 rfl rfl
set_option maxRecDepth 20000 in
theorem me11_cries : Cond.selects y11_cries.cls y11_cries y11_cries ∈ xG := xG_k xT_5 3 rfl rfl
set_option maxRecDepth 20000 in
theorem mf12_cries : xmf y12_cries prog_14_method_85_code 1 (some .int) := ⟨xG_k xT_8 101 rfl rfl, xG_k xT_1 13 rfl rfl, ⟨by decide +kernel, by decide +kernel⟩, by decide +kernel⟩
set_option maxRecDepth 20000 in
theorem mi12_cries : Cond.instanceMethod y12_cries ∈ xG := xG_k xT_8 99 rfl rfl
set_option maxRecDepth 20000 in
theorem me12_cries : Cond.selects y12_cries.cls y12_cries y12_cries ∈ xG := xG_k xT_8 100 rfl rfl
set_option maxRecDepth 20000 in
theorem mf11_later : xmf y11_later prog_1_method_17_code 2 (some .int) := ⟨xG_k xT_5 16 rfl rfl, xG_k xT_1 1 rfl rfl, ⟨by decide +kernel, by decide +kernel⟩, by decide +kernel⟩
set_option maxRecDepth 20000 in
theorem mi11_later : Cond.instanceMethod y11_later ∈ xG := xG_k xT_5 14 rfl rfl
set_option maxRecDepth 20000 in
theorem me11_later : Cond.selects y11_later.cls y11_later y11_later ∈ xG := xG_k xT_5 15 rfl rfl
set_option maxRecDepth 20000 in
theorem mf12_later : xmf y12_later prog_14_method_86_code 3 (some .int) := ⟨xG_k xT_8 113 rfl rfl, xG_k xT_1 13 rfl rfl, ⟨by decide +kernel, by decide +kernel⟩, by decide +kernel⟩
set_option maxRecDepth 20000 in
theorem mi12_later : Cond.instanceMethod y12_later ∈ xG := xG_k xT_8 111 rfl rfl
set_option maxRecDepth 20000 in
theorem me12_later : Cond.selects y12_later.cls y12_later y12_later ∈ xG := xG_k xT_8 112 rfl rfl
set_option maxRecDepth 20000 in
theorem mf11_over : xmf y11_over prog_1_method_19_code 3 (some .int) := ⟨xG_k xT_5 25 rfl rfl, xG_k xT_1 1 rfl rfl, ⟨by decide +kernel, by decide +kernel⟩, by decide +kernel⟩
set_option maxRecDepth 20000 in
theorem mi11_over : Cond.instanceMethod y11_over ∈ xG := xG_k xT_5 23 rfl rfl
set_option maxRecDepth 20000 in
theorem me11_over : Cond.selects y11_over.cls y11_over y11_over ∈ xG := xG_k xT_5 24 rfl rfl
set_option maxRecDepth 20000 in
theorem mf12_over : xmf y12_over prog_14_method_87_code 3 (some .int) := ⟨xG_k xT_8 121 rfl rfl, xG_k xT_1 13 rfl rfl, ⟨by decide +kernel, by decide +kernel⟩, by decide +kernel⟩
set_option maxRecDepth 20000 in
theorem mi12_over : Cond.instanceMethod y12_over ∈ xG := xG_k xT_8 119 rfl rfl
set_option maxRecDepth 20000 in
theorem me12_over : Cond.selects y12_over.cls y12_over y12_over ∈ xG := xG_k xT_8 120 rfl rfl
set_option maxRecDepth 20000 in
theorem mf11_sinks : xmf y11_sinks prog_1_method_20_code 2 (some .int) := ⟨xG_k xT_5 29 rfl rfl, xG_k xT_1 1 rfl rfl, ⟨by decide +kernel, by decide +kernel⟩, by decide +kernel⟩
set_option maxRecDepth 20000 in
theorem mi11_sinks : Cond.instanceMethod y11_sinks ∈ xG := xG_k xT_5 27 rfl rfl
set_option maxRecDepth 20000 in
theorem me11_sinks : Cond.selects y11_sinks.cls y11_sinks y11_sinks ∈ xG := xG_k xT_5 28 rfl rfl
set_option maxRecDepth 20000 in
theorem mf12_sinks : xmf y12_sinks prog_14_method_90_code 2 (some .int) := ⟨xG_k xT_8 125 rfl rfl, xG_k xT_1 13 rfl rfl, ⟨by decide +kernel, by decide +kernel⟩, by decide +kernel⟩
set_option maxRecDepth 20000 in
theorem mi12_sinks : Cond.instanceMethod y12_sinks ∈ xG := xG_k xT_8 123 rfl rfl
set_option maxRecDepth 20000 in
theorem me12_sinks : Cond.selects y12_sinks.cls y12_sinks y12_sinks ∈ xG := xG_k xT_8 124 rfl rfl
set_option maxRecDepth 20000 in
theorem mf11_first : xmf y11_first prog_1_method_22_code 3 (some .int) := ⟨xG_k xT_5 42 rfl rfl, xG_k xT_1 1 rfl rfl, ⟨by decide +kernel, by decide +kernel⟩, by decide +kernel⟩
set_option maxRecDepth 20000 in
theorem mi11_first : Cond.instanceMethod y11_first ∈ xG := xG_k xT_5 40 rfl rfl
set_option maxRecDepth 20000 in
theorem me11_first : Cond.selects y11_first.cls y11_first y11_first ∈ xG := xG_k xT_5 41 rfl rfl
set_option maxRecDepth 20000 in
theorem mf12_first : xmf y12_first prog_14_method_91_code 4 (some .int) := ⟨xG_k xT_8 137 rfl rfl, xG_k xT_1 13 rfl rfl, ⟨by decide +kernel, by decide +kernel⟩, by decide +kernel⟩
set_option maxRecDepth 20000 in
theorem mi12_first : Cond.instanceMethod y12_first ∈ xG := xG_k xT_8 135 rfl rfl
set_option maxRecDepth 20000 in
theorem me12_first : Cond.selects y12_first.cls y12_first y12_first ∈ xG := xG_k xT_8 136 rfl rfl
set_option maxRecDepth 20000 in
theorem mf11_home : xmf y11_home prog_1_method_24_code 2 (some .int) := ⟨xG_k xT_5 49 rfl rfl, xG_k xT_1 1 rfl rfl, ⟨by decide +kernel, by decide +kernel⟩, by decide +kernel⟩
set_option maxRecDepth 20000 in
theorem mi11_home : Cond.instanceMethod y11_home ∈ xG := xG_k xT_5 47 rfl rfl
set_option maxRecDepth 20000 in
theorem me11_home : Cond.selects y11_home.cls y11_home y11_home ∈ xG := xG_k xT_5 48 rfl rfl
set_option maxRecDepth 20000 in
theorem mf12_home : xmf y12_home prog_14_method_92_code 2 (some .int) := ⟨xG_k xT_8 141 rfl rfl, xG_k xT_1 13 rfl rfl, ⟨by decide +kernel, by decide +kernel⟩, by decide +kernel⟩
set_option maxRecDepth 20000 in
theorem mi12_home : Cond.instanceMethod y12_home ∈ xG := xG_k xT_8 139 rfl rfl
set_option maxRecDepth 20000 in
theorem me12_home : Cond.selects y12_home.cls y12_home y12_home ∈ xG := xG_k xT_8 140 rfl rfl
set_option maxRecDepth 20000 in
theorem mf11_quiet : xmf y11_quiet prog_1_method_25_code 2 (some .int) := ⟨xG_k xT_5 53 rfl rfl, xG_k xT_1 1 rfl rfl, ⟨by decide +kernel, by decide +kernel⟩, by decide +kernel⟩
set_option maxRecDepth 20000 in
theorem mi11_quiet : Cond.instanceMethod y11_quiet ∈ xG := xG_k xT_5 51 rfl rfl
set_option maxRecDepth 20000 in
theorem me11_quiet : Cond.selects y11_quiet.cls y11_quiet y11_quiet ∈ xG := xG_k xT_5 52 rfl rfl
set_option maxRecDepth 20000 in
theorem mf12_quiet : xmf y12_quiet prog_14_method_93_code 2 (some .int) := ⟨xG_k xT_8 145 rfl rfl, xG_k xT_1 13 rfl rfl, ⟨by decide +kernel, by decide +kernel⟩, by decide +kernel⟩
set_option maxRecDepth 20000 in
theorem mi12_quiet : Cond.instanceMethod y12_quiet ∈ xG := xG_k xT_8 143 rfl rfl
set_option maxRecDepth 20000 in
theorem me12_quiet : Cond.selects y12_quiet.cls y12_quiet y12_quiet ∈ xG := xG_k xT_8 144 rfl rfl
set_option maxRecDepth 20000 in
theorem mf11_when : xmf y11_when prog_1_method_26_code 3 (some .int) := ⟨xG_k xT_5 58 rfl rfl, xG_k xT_1 1 rfl rfl, ⟨by decide +kernel, by decide +kernel⟩, by decide +kernel⟩
set_option maxRecDepth 20000 in
theorem mi11_when : Cond.instanceMethod y11_when ∈ xG := xG_k xT_5 56 rfl rfl
set_option maxRecDepth 20000 in
theorem me11_when : Cond.selects y11_when.cls y11_when y11_when ∈ xG := xG_k xT_5 57 rfl rfl
set_option maxRecDepth 20000 in
theorem mf12_when : xmf y12_when prog_14_method_94_code 3 (some .int) := ⟨xG_k xT_8 149 rfl rfl, xG_k xT_1 13 rfl rfl, ⟨by decide +kernel, by decide +kernel⟩, by decide +kernel⟩
set_option maxRecDepth 20000 in
theorem mi12_when : Cond.instanceMethod y12_when ∈ xG := xG_k xT_8 147 rfl rfl
set_option maxRecDepth 20000 in
theorem me12_when : Cond.selects y12_when.cls y12_when y12_when ∈ xG := xG_k xT_8 148 rfl rfl
set_option maxRecDepth 20000 in
theorem mf11_lost : xmf y11_lost prog_1_method_27_code 2 (some .int) := ⟨xG_k xT_5 63 rfl rfl, xG_k xT_1 1 rfl rfl, ⟨by decide +kernel, by decide +kernel⟩, by decide +kernel⟩
set_option maxRecDepth 20000 in
theorem mi11_lost : Cond.instanceMethod y11_lost ∈ xG := xG_k xT_5 61 rfl rfl
set_option maxRecDepth 20000 in
theorem me11_lost : Cond.selects y11_lost.cls y11_lost y11_lost ∈ xG := xG_k xT_5 62 rfl rfl
set_option maxRecDepth 20000 in
theorem mf12_lost : xmf y12_lost prog_14_method_95_code 3 (some .int) := ⟨xG_k xT_8 153 rfl rfl, xG_k xT_1 13 rfl rfl, ⟨by decide +kernel, by decide +kernel⟩, by decide +kernel⟩
set_option maxRecDepth 20000 in
theorem mi12_lost : Cond.instanceMethod y12_lost ∈ xG := xG_k xT_8 151 rfl rfl
set_option maxRecDepth 20000 in
theorem me12_lost : Cond.selects y12_lost.cls y12_lost y12_lost ∈ xG := xG_k xT_8 152 rfl rfl
set_option maxRecDepth 20000 in
theorem mf11_fits : xmf y11_fits prog_1_method_28_code 2 (some .int) := ⟨xG_k xT_5 67 rfl rfl, xG_k xT_1 1 rfl rfl, ⟨by decide +kernel, by decide +kernel⟩, by decide +kernel⟩
set_option maxRecDepth 20000 in
theorem mi11_fits : Cond.instanceMethod y11_fits ∈ xG := xG_k xT_5 65 rfl rfl
set_option maxRecDepth 20000 in
theorem me11_fits : Cond.selects y11_fits.cls y11_fits y11_fits ∈ xG := xG_k xT_5 66 rfl rfl
set_option maxRecDepth 20000 in
theorem mf12_fits : xmf y12_fits prog_14_method_97_code 2 (some .int) := ⟨xG_k xT_8 157 rfl rfl, xG_k xT_1 13 rfl rfl, ⟨by decide +kernel, by decide +kernel⟩, by decide +kernel⟩
set_option maxRecDepth 20000 in
theorem mi12_fits : Cond.instanceMethod y12_fits ∈ xG := xG_k xT_8 155 rfl rfl
set_option maxRecDepth 20000 in
theorem me12_fits : Cond.selects y12_fits.cls y12_fits y12_fits ∈ xG := xG_k xT_8 156 rfl rfl
set_option maxRecDepth 20000 in
theorem mf11_could : xmf y11_could prog_1_method_29_code 4 (some .int) := ⟨xG_k xT_5 75 rfl rfl, xG_k xT_1 1 rfl rfl, ⟨by decide +kernel, by decide +kernel⟩, by decide +kernel⟩
set_option maxRecDepth 20000 in
theorem mi11_could : Cond.instanceMethod y11_could ∈ xG := xG_k xT_5 73 rfl rfl
set_option maxRecDepth 20000 in
theorem me11_could : Cond.selects y11_could.cls y11_could y11_could ∈ xG := xG_k xT_5 74 rfl rfl
set_option maxRecDepth 20000 in
theorem mf12_could : xmf y12_could prog_14_method_98_code 4 (some .int) := ⟨xG_k xT_8 165 rfl rfl, xG_k xT_1 13 rfl rfl, ⟨by decide +kernel, by decide +kernel⟩, by decide +kernel⟩
set_option maxRecDepth 20000 in
theorem mi12_could : Cond.instanceMethod y12_could ∈ xG := xG_k xT_8 163 rfl rfl
set_option maxRecDepth 20000 in
theorem me12_could : Cond.selects y12_could.cls y12_could y12_could ∈ xG := xG_k xT_8 164 rfl rfl
set_option maxRecDepth 20000 in
theorem mf11_best : xmf y11_best prog_1_method_30_code 2 (some .int) := ⟨xG_k xT_5 80 rfl rfl, xG_k xT_1 1 rfl rfl, ⟨by decide +kernel, by decide +kernel⟩, by decide +kernel⟩
set_option maxRecDepth 20000 in
theorem mi11_best : Cond.instanceMethod y11_best ∈ xG := xG_k xT_5 78 rfl rfl
set_option maxRecDepth 20000 in
theorem me11_best : Cond.selects y11_best.cls y11_best y11_best ∈ xG := xG_k xT_5 79 rfl rfl
set_option maxRecDepth 20000 in
theorem mf12_best : xmf y12_best prog_14_method_101_code 2 (some .int) := ⟨xG_k xT_8 169 rfl rfl, xG_k xT_1 13 rfl rfl, ⟨by decide +kernel, by decide +kernel⟩, by decide +kernel⟩
set_option maxRecDepth 20000 in
theorem mi12_best : Cond.instanceMethod y12_best ∈ xG := xG_k xT_8 167 rfl rfl
set_option maxRecDepth 20000 in
theorem me12_best : Cond.selects y12_best.cls y12_best y12_best ∈ xG := xG_k xT_8 168 rfl rfl
set_option maxRecDepth 20000 in
theorem mf11_with : xmf y11_with prog_1_method_31_code 2 (some .int) := ⟨xG_k xT_5 105 rfl rfl, xG_k xT_1 1 rfl rfl, ⟨by decide +kernel, by decide +kernel⟩, by decide +kernel⟩
set_option maxRecDepth 20000 in
theorem mi11_with : Cond.instanceMethod y11_with ∈ xG := xG_k xT_5 103 rfl rfl
set_option maxRecDepth 20000 in
theorem me11_with : Cond.selects y11_with.cls y11_with y11_with ∈ xG := xG_k xT_5 104 rfl rfl
set_option maxRecDepth 20000 in
theorem mf12_with : xmf y12_with prog_14_method_102_code 2 (some .int) := ⟨xG_k xT_8 181 rfl rfl, xG_k xT_1 13 rfl rfl, ⟨by decide +kernel, by decide +kernel⟩, by decide +kernel⟩
set_option maxRecDepth 20000 in
theorem mi12_with : Cond.instanceMethod y12_with ∈ xG := xG_k xT_8 179 rfl rfl
set_option maxRecDepth 20000 in
theorem me12_with : Cond.selects y12_with.cls y12_with y12_with ∈ xG := xG_k xT_8 180 rfl rfl
set_option maxRecDepth 20000 in
theorem mf11_need : xmf y11_need prog_1_method_32_code 6 (some .int) := ⟨xG_k xT_5 109 rfl rfl, xG_k xT_1 1 rfl rfl, ⟨by decide +kernel, by decide +kernel⟩, by decide +kernel⟩
set_option maxRecDepth 20000 in
theorem mi11_need : Cond.instanceMethod y11_need ∈ xG := xG_k xT_5 107 rfl rfl
set_option maxRecDepth 20000 in
theorem me11_need : Cond.selects y11_need.cls y11_need y11_need ∈ xG := xG_k xT_5 108 rfl rfl
set_option maxRecDepth 20000 in
theorem mf12_need : xmf y12_need prog_14_method_105_code 5 (some .int) := ⟨xG_k xT_8 185 rfl rfl, xG_k xT_1 13 rfl rfl, ⟨by decide +kernel, by decide +kernel⟩, by decide +kernel⟩
set_option maxRecDepth 20000 in
theorem mi12_need : Cond.instanceMethod y12_need ∈ xG := xG_k xT_8 183 rfl rfl
set_option maxRecDepth 20000 in
theorem me12_need : Cond.selects y12_need.cls y12_need y12_need ∈ xG := xG_k xT_8 184 rfl rfl
set_option maxRecDepth 20000 in
theorem mf11_latest : xmf y11_latest prog_1_method_33_code 3 (some .int) := ⟨xG_k xT_5 130 rfl rfl, xG_k xT_1 1 rfl rfl, ⟨by decide +kernel, by decide +kernel⟩, by decide +kernel⟩
set_option maxRecDepth 20000 in
theorem mi11_latest : Cond.instanceMethod y11_latest ∈ xG := xG_k xT_5 128 rfl rfl
set_option maxRecDepth 20000 in
theorem me11_latest : Cond.selects y11_latest.cls y11_latest y11_latest ∈ xG := xG_k xT_5 129 rfl rfl
set_option maxRecDepth 20000 in
theorem mf12_latest : xmf y12_latest prog_14_method_108_code 3 (some .int) := ⟨xG_k xT_8 205 rfl rfl, xG_k xT_1 13 rfl rfl, ⟨by decide +kernel, by decide +kernel⟩, by decide +kernel⟩
set_option maxRecDepth 20000 in
theorem mi12_latest : Cond.instanceMethod y12_latest ∈ xG := xG_k xT_8 203 rfl rfl
set_option maxRecDepth 20000 in
theorem me12_latest : Cond.selects y12_latest.cls y12_latest y12_latest ∈ xG := xG_k xT_8 204 rfl rfl
set_option maxRecDepth 20000 in
theorem mf11_enough : xmf y11_enough prog_1_method_34_code 2 (some .int) := ⟨xG_k xT_5 139 rfl rfl, xG_k xT_1 1 rfl rfl, ⟨by decide +kernel, by decide +kernel⟩, by decide +kernel⟩
set_option maxRecDepth 20000 in
theorem mi11_enough : Cond.instanceMethod y11_enough ∈ xG := xG_k xT_5 137 rfl rfl
set_option maxRecDepth 20000 in
theorem me11_enough : Cond.selects y11_enough.cls y11_enough y11_enough ∈ xG := xG_k xT_5 138 rfl rfl
set_option maxRecDepth 20000 in
theorem mf12_enough : xmf y12_enough prog_14_method_107_code 2 (some .int) := ⟨xG_k xT_8 197 rfl rfl, xG_k xT_1 13 rfl rfl, ⟨by decide +kernel, by decide +kernel⟩, by decide +kernel⟩
set_option maxRecDepth 20000 in
theorem mi12_enough : Cond.instanceMethod y12_enough ∈ xG := xG_k xT_8 195 rfl rfl
set_option maxRecDepth 20000 in
theorem me12_enough : Cond.selects y12_enough.cls y12_enough y12_enough ∈ xG := xG_k xT_8 196 rfl rfl
set_option maxRecDepth 20000 in
theorem mf11_near : xmf y11_near prog_1_method_35_code 6 (some .int) := ⟨xG_k xT_5 143 rfl rfl, xG_k xT_1 1 rfl rfl, ⟨by decide +kernel, by decide +kernel⟩, by decide +kernel⟩
set_option maxRecDepth 20000 in
theorem mi11_near : Cond.instanceMethod y11_near ∈ xG := xG_k xT_5 141 rfl rfl
set_option maxRecDepth 20000 in
theorem me11_near : Cond.selects y11_near.cls y11_near y11_near ∈ xG := xG_k xT_5 142 rfl rfl
set_option maxRecDepth 20000 in
theorem mf12_near : xmf y12_near prog_14_method_113_code 4 (some .int) := ⟨xG_k xT_8 225 rfl rfl, xG_k xT_1 13 rfl rfl, ⟨by decide +kernel, by decide +kernel⟩, by decide +kernel⟩
set_option maxRecDepth 20000 in
theorem mi12_near : Cond.instanceMethod y12_near ∈ xG := xG_k xT_8 223 rfl rfl
set_option maxRecDepth 20000 in
theorem me12_near : Cond.selects y12_near.cls y12_near y12_near ∈ xG := xG_k xT_8 224 rfl rfl
set_option maxRecDepth 20000 in
theorem mf11_gap : xmf y11_gap prog_1_method_36_code 3 (some .int) := ⟨xG_k xT_5 148 rfl rfl, xG_k xT_1 1 rfl rfl, ⟨by decide +kernel, by decide +kernel⟩, by decide +kernel⟩
set_option maxRecDepth 20000 in
theorem mi11_gap : Cond.instanceMethod y11_gap ∈ xG := xG_k xT_5 146 rfl rfl
set_option maxRecDepth 20000 in
theorem me11_gap : Cond.selects y11_gap.cls y11_gap y11_gap ∈ xG := xG_k xT_5 147 rfl rfl
set_option maxRecDepth 20000 in
theorem mf12_gap : xmf y12_gap prog_14_method_114_code 4 (some .int) := ⟨xG_k xT_8 229 rfl rfl, xG_k xT_1 13 rfl rfl, ⟨by decide +kernel, by decide +kernel⟩, by decide +kernel⟩
set_option maxRecDepth 20000 in
theorem mi12_gap : Cond.instanceMethod y12_gap ∈ xG := xG_k xT_8 227 rfl rfl
set_option maxRecDepth 20000 in
theorem me12_gap : Cond.selects y12_gap.cls y12_gap y12_gap ∈ xG := xG_k xT_8 228 rfl rfl
set_option maxRecDepth 20000 in
theorem mf11_row : xmf y11_row prog_1_method_37_code 3 (some .int) := ⟨xG_k xT_5 152 rfl rfl, xG_k xT_1 1 rfl rfl, ⟨by decide +kernel, by decide +kernel⟩, by decide +kernel⟩
set_option maxRecDepth 20000 in
theorem mi11_row : Cond.instanceMethod y11_row ∈ xG := xG_k xT_5 150 rfl rfl
set_option maxRecDepth 20000 in
theorem me11_row : Cond.selects y11_row.cls y11_row y11_row ∈ xG := xG_k xT_5 151 rfl rfl
set_option maxRecDepth 20000 in
theorem mf12_row : xmf y12_row prog_14_method_117_code 1 (some .int) := ⟨xG_k xT_8 233 rfl rfl, xG_k xT_1 13 rfl rfl, ⟨by decide +kernel, by decide +kernel⟩, by decide +kernel⟩
set_option maxRecDepth 20000 in
theorem mi12_row : Cond.instanceMethod y12_row ∈ xG := xG_k xT_8 231 rfl rfl
set_option maxRecDepth 20000 in
theorem me12_row : Cond.selects y12_row.cls y12_row y12_row ∈ xG := xG_k xT_8 232 rfl rfl
set_option maxRecDepth 20000 in
theorem mf11_dense : xmf y11_dense prog_1_method_38_code 5 (some .int) := ⟨xG_k xT_5 161 rfl rfl, xG_k xT_1 1 rfl rfl, ⟨by decide +kernel, by decide +kernel⟩, by decide +kernel⟩
set_option maxRecDepth 20000 in
theorem mi11_dense : Cond.instanceMethod y11_dense ∈ xG := xG_k xT_5 159 rfl rfl
set_option maxRecDepth 20000 in
theorem me11_dense : Cond.selects y11_dense.cls y11_dense y11_dense ∈ xG := xG_k xT_5 160 rfl rfl
set_option maxRecDepth 20000 in
theorem mf12_dense : xmf y12_dense prog_14_method_118_code 1 (some .int) := ⟨xG_k xT_9 5 rfl rfl, xG_k xT_1 13 rfl rfl, ⟨by decide +kernel, by decide +kernel⟩, by decide +kernel⟩
set_option maxRecDepth 20000 in
theorem mi12_dense : Cond.instanceMethod y12_dense ∈ xG := xG_k xT_9 3 rfl rfl
set_option maxRecDepth 20000 in
theorem me12_dense : Cond.selects y12_dense.cls y12_dense y12_dense ∈ xG := xG_k xT_9 4 rfl rfl
set_option maxRecDepth 20000 in
theorem mf11_tight : xmf y11_tight prog_1_method_39_code 5 (some .int) := ⟨xG_k xT_5 165 rfl rfl, xG_k xT_1 1 rfl rfl, ⟨by decide +kernel, by decide +kernel⟩, by decide +kernel⟩
set_option maxRecDepth 20000 in
theorem mi11_tight : Cond.instanceMethod y11_tight ∈ xG := xG_k xT_5 163 rfl rfl
set_option maxRecDepth 20000 in
theorem me11_tight : Cond.selects y11_tight.cls y11_tight y11_tight ∈ xG := xG_k xT_5 164 rfl rfl
set_option maxRecDepth 20000 in
theorem mf12_tight : xmf y12_tight prog_14_method_119_code 5 (some .int) := ⟨xG_k xT_9 9 rfl rfl, xG_k xT_1 13 rfl rfl, ⟨by decide +kernel, by decide +kernel⟩, by decide +kernel⟩
set_option maxRecDepth 20000 in
theorem mi12_tight : Cond.instanceMethod y12_tight ∈ xG := xG_k xT_9 7 rfl rfl
set_option maxRecDepth 20000 in
theorem me12_tight : Cond.selects y12_tight.cls y12_tight y12_tight ∈ xG := xG_k xT_9 8 rfl rfl
set_option maxRecDepth 20000 in
theorem mf11_spare : xmf y11_spare prog_1_method_40_code 3 (some .int) := ⟨xG_k xT_5 170 rfl rfl, xG_k xT_1 1 rfl rfl, ⟨by decide +kernel, by decide +kernel⟩, by decide +kernel⟩
set_option maxRecDepth 20000 in
theorem mi11_spare : Cond.instanceMethod y11_spare ∈ xG := xG_k xT_5 168 rfl rfl
set_option maxRecDepth 20000 in
theorem me11_spare : Cond.selects y11_spare.cls y11_spare y11_spare ∈ xG := xG_k xT_5 169 rfl rfl
set_option maxRecDepth 20000 in
theorem mf12_spare : xmf y12_spare prog_14_method_109_code 3 (some .int) := ⟨xG_k xT_8 209 rfl rfl, xG_k xT_1 13 rfl rfl, ⟨by decide +kernel, by decide +kernel⟩, by decide +kernel⟩
set_option maxRecDepth 20000 in
theorem mi12_spare : Cond.instanceMethod y12_spare ∈ xG := xG_k xT_8 207 rfl rfl
set_option maxRecDepth 20000 in
theorem me12_spare : Cond.selects y12_spare.cls y12_spare y12_spare ∈ xG := xG_k xT_8 208 rfl rfl
set_option maxRecDepth 20000 in
theorem mf11_save : xmf y11_save prog_1_method_41_code 4 (some .boolean) := ⟨xG_k xT_5 175 rfl rfl, xG_k xT_1 1 rfl rfl, ⟨by decide +kernel, by decide +kernel⟩, by decide +kernel⟩
set_option maxRecDepth 20000 in
theorem mi11_save : Cond.instanceMethod y11_save ∈ xG := xG_k xT_5 173 rfl rfl
set_option maxRecDepth 20000 in
theorem me11_save : Cond.selects y11_save.cls y11_save y11_save ∈ xG := xG_k xT_5 174 rfl rfl
set_option maxRecDepth 20000 in
theorem mf12_save : xmf y12_save prog_14_method_111_code 4 (some .boolean) := ⟨xG_k xT_8 213 rfl rfl, xG_k xT_1 13 rfl rfl, ⟨by decide +kernel, by decide +kernel⟩, by decide +kernel⟩
set_option maxRecDepth 20000 in
theorem mi12_save : Cond.instanceMethod y12_save ∈ xG := xG_k xT_8 211 rfl rfl
set_option maxRecDepth 20000 in
theorem me12_save : Cond.selects y12_save.cls y12_save y12_save ∈ xG := xG_k xT_8 212 rfl rfl
set_option maxRecDepth 20000 in
theorem mf11_worth : xmf y11_worth prog_1_method_43_code 5 (some .int) := ⟨xG_k xT_5 183 rfl rfl, xG_k xT_1 1 rfl rfl, ⟨by decide +kernel, by decide +kernel⟩, by decide +kernel⟩
set_option maxRecDepth 20000 in
theorem mi11_worth : Cond.instanceMethod y11_worth ∈ xG := xG_k xT_5 181 rfl rfl
set_option maxRecDepth 20000 in
theorem me11_worth : Cond.selects y11_worth.cls y11_worth y11_worth ∈ xG := xG_k xT_5 182 rfl rfl
set_option maxRecDepth 20000 in
theorem mf12_worth : xmf y12_worth prog_14_method_112_code 5 (some .int) := ⟨xG_k xT_8 221 rfl rfl, xG_k xT_1 13 rfl rfl, ⟨by decide +kernel, by decide +kernel⟩, by decide +kernel⟩
set_option maxRecDepth 20000 in
theorem mi12_worth : Cond.instanceMethod y12_worth ∈ xG := xG_k xT_8 219 rfl rfl
set_option maxRecDepth 20000 in
theorem me12_worth : Cond.selects y12_worth.cls y12_worth y12_worth ∈ xG := xG_k xT_8 220 rfl rfl
set_option maxRecDepth 20000 in
theorem mf11_see : xmf y11_see prog_1_method_44_code 3 (some .boolean) := ⟨xG_k xT_5 187 rfl rfl, xG_k xT_1 1 rfl rfl, ⟨by decide +kernel, by decide +kernel⟩, by decide +kernel⟩
set_option maxRecDepth 20000 in
theorem mi11_see : Cond.instanceMethod y11_see ∈ xG := xG_k xT_5 185 rfl rfl
set_option maxRecDepth 20000 in
theorem me11_see : Cond.selects y11_see.cls y11_see y11_see ∈ xG := xG_k xT_5 186 rfl rfl
set_option maxRecDepth 20000 in
theorem mf12_see : xmf y12_see prog_14_method_120_code 4 (some .boolean) := ⟨xG_k xT_9 13 rfl rfl, xG_k xT_1 13 rfl rfl, ⟨by decide +kernel, by decide +kernel⟩, by decide +kernel⟩
set_option maxRecDepth 20000 in
theorem mi12_see : Cond.instanceMethod y12_see ∈ xG := xG_k xT_9 11 rfl rfl
set_option maxRecDepth 20000 in
theorem me12_see : Cond.selects y12_see.cls y12_see y12_see ∈ xG := xG_k xT_9 12 rfl rfl
set_option maxRecDepth 20000 in
theorem mf11_holes : xmf y11_holes prog_1_method_45_code 1 (some .int) := ⟨xG_k xT_5 195 rfl rfl, xG_k xT_1 1 rfl rfl, ⟨by decide +kernel, by decide +kernel⟩, by decide +kernel⟩
set_option maxRecDepth 20000 in
theorem mi11_holes : Cond.instanceMethod y11_holes ∈ xG := xG_k xT_5 193 rfl rfl
set_option maxRecDepth 20000 in
theorem me11_holes : Cond.selects y11_holes.cls y11_holes y11_holes ∈ xG := xG_k xT_5 194 rfl rfl
set_option maxRecDepth 20000 in
theorem mf12_holes : xmf y12_holes prog_14_method_123_code 1 (some .int) := ⟨xG_k xT_9 17 rfl rfl, xG_k xT_1 13 rfl rfl, ⟨by decide +kernel, by decide +kernel⟩, by decide +kernel⟩
set_option maxRecDepth 20000 in
theorem mi12_holes : Cond.instanceMethod y12_holes ∈ xG := xG_k xT_9 15 rfl rfl
set_option maxRecDepth 20000 in
theorem me12_holes : Cond.selects y12_holes.cls y12_holes y12_holes ∈ xG := xG_k xT_9 16 rfl rfl
set_option maxRecDepth 20000 in
theorem mf11_look : xmf y11_look prog_1_method_46_code 1 (some .int) := ⟨xG_k xT_5 217 rfl rfl, xG_k xT_1 1 rfl rfl, ⟨by decide +kernel, by decide +kernel⟩, by decide +kernel⟩
set_option maxRecDepth 20000 in
theorem mi11_look : Cond.instanceMethod y11_look ∈ xG := xG_k xT_5 215 rfl rfl
set_option maxRecDepth 20000 in
theorem me11_look : Cond.selects y11_look.cls y11_look y11_look ∈ xG := xG_k xT_5 216 rfl rfl
set_option maxRecDepth 20000 in
theorem mf12_look : xmf y12_look prog_14_method_124_code 9 (some .int) := ⟨xG_k xT_9 29 rfl rfl, xG_k xT_1 13 rfl rfl, ⟨by decide +kernel, by decide +kernel⟩, by decide +kernel⟩
set_option maxRecDepth 20000 in
theorem mi12_look : Cond.instanceMethod y12_look ∈ xG := xG_k xT_9 27 rfl rfl
set_option maxRecDepth 20000 in
theorem me12_look : Cond.selects y12_look.cls y12_look y12_look ∈ xG := xG_k xT_9 28 rfl rfl
set_option maxRecDepth 20000 in
theorem mf11_chance : xmf y11_chance prog_1_method_47_code 7 (some .int) := ⟨xG_k xT_5 237 rfl rfl, xG_k xT_1 1 rfl rfl, ⟨by decide +kernel, by decide +kernel⟩, by decide +kernel⟩
set_option maxRecDepth 20000 in
theorem mi11_chance : Cond.instanceMethod y11_chance ∈ xG := xG_k xT_5 235 rfl rfl
set_option maxRecDepth 20000 in
theorem me11_chance : Cond.selects y11_chance.cls y11_chance y11_chance ∈ xG := xG_k xT_5 236 rfl rfl
set_option maxRecDepth 20000 in
theorem mf12_chance : xmf y12_chance prog_14_method_125_code 13 (some .int) := ⟨xG_k xT_9 33 rfl rfl, xG_k xT_1 13 rfl rfl, ⟨by decide +kernel, by decide +kernel⟩, by decide +kernel⟩
set_option maxRecDepth 20000 in
theorem mi12_chance : Cond.instanceMethod y12_chance ∈ xG := xG_k xT_9 31 rfl rfl
set_option maxRecDepth 20000 in
theorem me12_chance : Cond.selects y12_chance.cls y12_chance y12_chance ∈ xG := xG_k xT_9 32 rfl rfl
set_option maxRecDepth 20000 in
theorem msL_rests : Cond.static yL_rests ∈ xG := xG_k xT_6 51 rfl rfl
set_option maxRecDepth 20000 in
theorem mf12_rests : xmf y12_rests prog_14_method_127_code 12 (some .int) := ⟨xG_k xT_9 38 rfl rfl, xG_k xT_1 13 rfl rfl, ⟨by decide +kernel, by decide +kernel⟩, by decide +kernel⟩
set_option maxRecDepth 20000 in
theorem mi12_rests : Cond.instanceMethod y12_rests ∈ xG := xG_k xT_9 36 rfl rfl
set_option maxRecDepth 20000 in
theorem me12_rests : Cond.selects y12_rests.cls y12_rests y12_rests ∈ xG := xG_k xT_9 37 rfl rfl
set_option maxRecDepth 20000 in
theorem mf12_thrown : xmf y12_thrown prog_14_method_1_code 1 (some .int) := ⟨xG_k xT_6 128 rfl rfl, xG_k xT_1 13 rfl rfl, ⟨by decide +kernel, by decide +kernel⟩, by decide +kernel⟩
set_option maxRecDepth 20000 in
theorem mi12_thrown : Cond.instanceMethod y12_thrown ∈ xG := xG_k xT_6 126 rfl rfl
set_option maxRecDepth 20000 in
theorem me12_thrown : Cond.selects y12_thrown.cls y12_thrown y12_thrown ∈ xG := xG_k xT_6 127 rfl rfl
set_option maxRecDepth 20000 in
theorem mf11_balls : xmf y11_balls prog_1_method_53_code 5 (some .int) := ⟨xG_k xT_6 8 rfl rfl, xG_k xT_1 1 rfl rfl, ⟨by decide +kernel, by decide +kernel⟩, by decide +kernel⟩
set_option maxRecDepth 20000 in
theorem mi11_balls : Cond.instanceMethod y11_balls ∈ xG := xG_k xT_6 6 rfl rfl
set_option maxRecDepth 20000 in
theorem me11_balls : Cond.selects y11_balls.cls y11_balls y11_balls ∈ xG := xG_k xT_6 7 rfl rfl
set_option maxRecDepth 20000 in
theorem mf12_balls : xmf y12_balls prog_14_method_130_code 6 (some .int) := ⟨xG_k xT_9 45 rfl rfl, xG_k xT_1 13 rfl rfl, ⟨by decide +kernel, by decide +kernel⟩, by decide +kernel⟩
set_option maxRecDepth 20000 in
theorem mi12_balls : Cond.instanceMethod y12_balls ∈ xG := xG_k xT_9 43 rfl rfl
set_option maxRecDepth 20000 in
theorem me12_balls : Cond.selects y12_balls.cls y12_balls y12_balls ∈ xG := xG_k xT_9 44 rfl rfl
set_option maxRecDepth 20000 in
theorem mf11_mark : xmf y11_mark prog_1_method_58_code 4 (some .boolean) := ⟨xG_k xT_6 30 rfl rfl, xG_k xT_1 1 rfl rfl, ⟨by decide +kernel, by decide +kernel⟩, by decide +kernel⟩
set_option maxRecDepth 20000 in
theorem mi11_mark : Cond.instanceMethod y11_mark ∈ xG := xG_k xT_6 28 rfl rfl
set_option maxRecDepth 20000 in
theorem me11_mark : Cond.selects y11_mark.cls y11_mark y11_mark ∈ xG := xG_k xT_6 29 rfl rfl
set_option maxRecDepth 20000 in
theorem mf12_mark : xmf y12_mark prog_14_method_131_code 3 (some .boolean) := ⟨xG_k xT_9 61 rfl rfl, xG_k xT_1 13 rfl rfl, ⟨by decide +kernel, by decide +kernel⟩, by decide +kernel⟩
set_option maxRecDepth 20000 in
theorem mi12_mark : Cond.instanceMethod y12_mark ∈ xG := xG_k xT_9 59 rfl rfl
set_option maxRecDepth 20000 in
theorem me12_mark : Cond.selects y12_mark.cls y12_mark y12_mark ∈ xG := xG_k xT_9 60 rfl rfl
set_option maxRecDepth 20000 in
theorem mf11_count : xmf y11_count prog_1_method_59_code 2 (some .int) := ⟨xG_k xT_6 48 rfl rfl, xG_k xT_1 1 rfl rfl, ⟨by decide +kernel, by decide +kernel⟩, by decide +kernel⟩
set_option maxRecDepth 20000 in
theorem mi11_count : Cond.instanceMethod y11_count ∈ xG := xG_k xT_6 46 rfl rfl
set_option maxRecDepth 20000 in
theorem me11_count : Cond.selects y11_count.cls y11_count y11_count ∈ xG := xG_k xT_6 47 rfl rfl
set_option maxRecDepth 20000 in
theorem mf12_count : xmf y12_count prog_14_method_132_code 2 (some .int) := ⟨xG_k xT_9 65 rfl rfl, xG_k xT_1 13 rfl rfl, ⟨by decide +kernel, by decide +kernel⟩, by decide +kernel⟩
set_option maxRecDepth 20000 in
theorem mi12_count : Cond.instanceMethod y12_count ∈ xG := xG_k xT_9 63 rfl rfl
set_option maxRecDepth 20000 in
theorem me12_count : Cond.selects y12_count.cls y12_count y12_count ∈ xG := xG_k xT_9 64 rfl rfl
set_option maxRecDepth 20000 in
theorem mf11_rests : xmf y11_rests prog_1_method_50_code 11 (some .int) := ⟨xG_k xT_6 57 rfl rfl, xG_k xT_1 1 rfl rfl, ⟨by decide +kernel, by decide +kernel⟩, by decide +kernel⟩
set_option maxRecDepth 20000 in
theorem mi11_rests : Cond.instanceMethod y11_rests ∈ xG := xG_k xT_6 55 rfl rfl
set_option maxRecDepth 20000 in
theorem me11_rests : Cond.selects y11_rests.cls y11_rests y11_rests ∈ xG := xG_k xT_6 56 rfl rfl
theorem xcond_inv {α : Type} {b : Bool} {x y : Option α} {o : α} (h : (bif b then x else y) = some o) : (b = true ∧ x = some o) ∨ y = some o := by
  cases b
  · exact Or.inr h
  · exact Or.inl ⟨rfl, h⟩
end
section
/-! THE STRINGS' METHODS -/
def xstxt (s : Nat) : List Nat := if s = 0 then [103, 117, 101, 115, 116, 32, 98, 101, 108, 116, 32, 109, 97, 110, 32, 104, 111, 108, 101, 115, 32, 119, 97, 116, 101, 114, 32, 114, 105, 115, 101, 115, 32, 97, 116, 32, 99, 104, 105, 110, 32, 98, 114, 101, 97, 116, 104, 32, 119, 101, 105, 103, 104, 115, 32, 98, 101, 97, 114, 115, 32, 114, 101, 97, 99, 104, 32, 112, 108, 97, 105, 110, 32, 119, 97, 118, 101, 114, 32, 104, 101, 97, 118, 121, 32, 115, 104, 97, 98, 98, 121, 32, 109, 105, 110, 117, 116, 101, 32, 99, 97, 115, 116, 32, 97, 115, 107, 32, 115, 116, 111, 112, 32, 110, 111, 116, 32, 97, 110, 100, 32, 111, 114, 32, 103, 97, 112, 115, 32, 100, 101, 112, 116, 104, 32, 116, 97, 108, 107, 32, 111, 117, 116, 32] else [40, 41, 60, 61, 43, 45, 42, 59]
def fS_length (s : Nat) (μ : XM) : XR := xri (nI (xstxt s).length) μ
noncomputable def fS_charAt (s : Nat) (k : Int32) (μ : XM) : XR := xck (xin k (xstxt s).length) (xri (nI ((xstxt s).getD k.toNatClampNeg 0)) μ)
def xidx (c : Int32) : Nat → List Nat → Int32
  | _, [] => -1
  | i, x :: l => if c = nI x then nI i else xidx c (i + 1) l
def fS_indexOf (s : Nat) (c : Int32) (μ : XM) : XR := xri (xidx c 0 (xstxt s)) μ
def FS_length : XF := fun av μ => match av with
  | [.inr (.inr (some (t, i, 0)))] => bif Nat.beq t 15 then fS_length i μ else none
  | _ => none
noncomputable def FS_charAt : XF := fun av μ => match av with
  | [.inr (.inr (some (t, i, 0))), .inl k] => bif Nat.beq t 15 then fS_charAt i k μ else none
  | _ => none
def FS_indexOf : XF := fun av μ => match av with
  | [.inr (.inr (some (t, i, 0))), .inl k] => bif Nat.beq t 15 then fS_indexOf i k μ else none
  | _ => none
theorem cS_length {X : XP} (hX : XOK X) (l : Launch) : Ctr X l yS_length prog_23_method_54_code 1 (some .int) (xrm 8) 0 0 FS_length := sorry
theorem cS_charAt {X : XP} (hX : XOK X) (l : Launch) : Ctr X l yS_charAt prog_23_method_56_code 2 (some .char) (xrm 8) 0 0 FS_charAt := sorry
theorem cS_indexOf {X : XP} (hX : XOK X) (l : Launch) : Ctr X l yS_indexOf prog_23_method_79_code 2 (some .int) (xrm 8) 0 0 FS_indexOf := sorry
end
