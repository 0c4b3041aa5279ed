section
-- ===== PART A: goes FIRST, ahead of the names: the tables' words, and 'selects' of the private methods out of them =====
/-- a private method of a class that the tables say can be made, by its rows of tables_1 -/
def lw_okq (q : MethodName × Nat) : Prop := (q.1.cls ≠ "java/lang/invoke/MethodHandle" ∧ q.1.cls ≠ "java/lang/invoke/VarHandle") ∧ Cond.instantiable q.1.cls q.2 ∈ tables_1 ∧ Cond.privateMethod q.1 ∈ tables_1 ∧ Cond.instanceMethod q.1 ∈ tables_1
theorem lw_p0 : lw_okq (⟨"SilenceBall$Tape", "signAt", "(I)C"⟩, 8) := ⟨⟨by decide +kernel, by decide +kernel⟩, List.mem_of_getElem? (i := 35) (by decide +kernel), List.mem_of_getElem? (i := 458) (by decide +kernel), List.mem_of_getElem? (i := 459) (by decide +kernel)⟩
theorem lw_p1 : lw_okq (⟨"SilenceBall$RoomReader", "readGuest", "(I)Z"⟩, 5) := ⟨⟨by decide +kernel, by decide +kernel⟩, List.mem_of_getElem? (i := 199) (by decide +kernel), List.mem_of_getElem? (i := 584) (by decide +kernel), List.mem_of_getElem? (i := 585) (by decide +kernel)⟩
theorem lw_p2 : lw_okq (⟨"SilenceBall$RoomReader", "readName", "([JI)Z"⟩, 5) := ⟨⟨by decide +kernel, by decide +kernel⟩, List.mem_of_getElem? (i := 199) (by decide +kernel), List.mem_of_getElem? (i := 593) (by decide +kernel), List.mem_of_getElem? (i := 594) (by decide +kernel)⟩
theorem lw_p3 : lw_okq (⟨"SilenceBall$RoomReader", "readKind", "([II)Z"⟩, 5) := ⟨⟨by decide +kernel, by decide +kernel⟩, List.mem_of_getElem? (i := 199) (by decide +kernel), List.mem_of_getElem? (i := 613) (by decide +kernel), List.mem_of_getElem? (i := 614) (by decide +kernel)⟩
theorem lw_p4 : lw_okq (⟨"SilenceBall$RoomReader", "readMeasure", "(III[II)Z"⟩, 5) := ⟨⟨by decide +kernel, by decide +kernel⟩, List.mem_of_getElem? (i := 199) (by decide +kernel), List.mem_of_getElem? (i := 617) (by decide +kernel), List.mem_of_getElem? (i := 618) (by decide +kernel)⟩
theorem lw_p5 : lw_okq (⟨"SilenceBall$RoomReader", "readBelt", "(I)Z"⟩, 5) := ⟨⟨by decide +kernel, by decide +kernel⟩, List.mem_of_getElem? (i := 199) (by decide +kernel), List.mem_of_getElem? (i := 633) (by decide +kernel), List.mem_of_getElem? (i := 634) (by decide +kernel)⟩
theorem lw_p6 : lw_okq (⟨"SilenceBall$RoomReader", "readMan", "(I)Z"⟩, 5) := ⟨⟨by decide +kernel, by decide +kernel⟩, List.mem_of_getElem? (i := 199) (by decide +kernel), List.mem_of_getElem? (i := 637) (by decide +kernel), List.mem_of_getElem? (i := 638) (by decide +kernel)⟩
theorem lw_p7 : lw_okq (⟨"SilenceBall$RoomReader", "readGaps", "()Z"⟩, 5) := ⟨⟨by decide +kernel, by decide +kernel⟩, List.mem_of_getElem? (i := 199) (by decide +kernel), List.mem_of_getElem? (i := 641) (by decide +kernel), List.mem_of_getElem? (i := 642) (by decide +kernel)⟩
theorem lw_p8 : lw_okq (⟨"SilenceBall$RoomReader", "readWater", "()Z"⟩, 5) := ⟨⟨by decide +kernel, by decide +kernel⟩, List.mem_of_getElem? (i := 199) (by decide +kernel), List.mem_of_getElem? (i := 645) (by decide +kernel), List.mem_of_getElem? (i := 646) (by decide +kernel)⟩
theorem lw_p9 : lw_okq (⟨"SilenceBall$RoomReader", "readLaw", "()Z"⟩, 5) := ⟨⟨by decide +kernel, by decide +kernel⟩, List.mem_of_getElem? (i := 199) (by decide +kernel), List.mem_of_getElem? (i := 649) (by decide +kernel), List.mem_of_getElem? (i := 650) (by decide +kernel)⟩
theorem lw_p10 : lw_okq (⟨"SilenceBall$RoomReader", "readE", "(I)Z"⟩, 5) := ⟨⟨by decide +kernel, by decide +kernel⟩, List.mem_of_getElem? (i := 199) (by decide +kernel), List.mem_of_getElem? (i := 653) (by decide +kernel), List.mem_of_getElem? (i := 654) (by decide +kernel)⟩
theorem lw_p11 : lw_okq (⟨"SilenceBall$RoomReader", "readTest", "(I)Z"⟩, 5) := ⟨⟨by decide +kernel, by decide +kernel⟩, List.mem_of_getElem? (i := 199) (by decide +kernel), List.mem_of_getElem? (i := 657) (by decide +kernel), List.mem_of_getElem? (i := 658) (by decide +kernel)⟩
theorem lw_p12 : lw_okq (⟨"SilenceBall$RoomReader", "readSum", "(I)Z"⟩, 5) := ⟨⟨by decide +kernel, by decide +kernel⟩, List.mem_of_getElem? (i := 199) (by decide +kernel), List.mem_of_getElem? (i := 661) (by decide +kernel), List.mem_of_getElem? (i := 662) (by decide +kernel)⟩
theorem lw_p13 : lw_okq (⟨"SilenceBall$RoomReader", "readProduct", "(I)Z"⟩, 5) := ⟨⟨by decide +kernel, by decide +kernel⟩, List.mem_of_getElem? (i := 199) (by decide +kernel), List.mem_of_getElem? (i := 665) (by decide +kernel), List.mem_of_getElem? (i := 666) (by decide +kernel)⟩
theorem lw_p14 : lw_okq (⟨"SilenceBall$RoomReader", "readPart", "(I)Z"⟩, 5) := ⟨⟨by decide +kernel, by decide +kernel⟩, List.mem_of_getElem? (i := 199) (by decide +kernel), List.mem_of_getElem? (i := 669) (by decide +kernel), List.mem_of_getElem? (i := 670) (by decide +kernel)⟩
theorem lw_p15 : lw_okq (⟨"SilenceBall$RoomReader", "write", "(I)Z"⟩, 5) := ⟨⟨by decide +kernel, by decide +kernel⟩, List.mem_of_getElem? (i := 199) (by decide +kernel), List.mem_of_getElem? (i := 674) (by decide +kernel), List.mem_of_getElem? (i := 675) (by decide +kernel)⟩
def lw_privs_1 : List (MethodName × Nat) := [(⟨"SilenceBall$Tape", "signAt", "(I)C"⟩, 8), (⟨"SilenceBall$RoomReader", "readGuest", "(I)Z"⟩, 5), (⟨"SilenceBall$RoomReader", "readName", "([JI)Z"⟩, 5), (⟨"SilenceBall$RoomReader", "readKind", "([II)Z"⟩, 5), (⟨"SilenceBall$RoomReader", "readMeasure", "(III[II)Z"⟩, 5), (⟨"SilenceBall$RoomReader", "readBelt", "(I)Z"⟩, 5), (⟨"SilenceBall$RoomReader", "readMan", "(I)Z"⟩, 5), (⟨"SilenceBall$RoomReader", "readGaps", "()Z"⟩, 5), (⟨"SilenceBall$RoomReader", "readWater", "()Z"⟩, 5), (⟨"SilenceBall$RoomReader", "readLaw", "()Z"⟩, 5), (⟨"SilenceBall$RoomReader", "readE", "(I)Z"⟩, 5), (⟨"SilenceBall$RoomReader", "readTest", "(I)Z"⟩, 5), (⟨"SilenceBall$RoomReader", "readSum", "(I)Z"⟩, 5), (⟨"SilenceBall$RoomReader", "readProduct", "(I)Z"⟩, 5), (⟨"SilenceBall$RoomReader", "readPart", "(I)Z"⟩, 5), (⟨"SilenceBall$RoomReader", "write", "(I)Z"⟩, 5)]
theorem lw_r1 : ∀ q ∈ lw_privs_1, lw_okq q := List.forall_mem_cons.mpr ⟨lw_p0, List.forall_mem_cons.mpr ⟨lw_p1, List.forall_mem_cons.mpr ⟨lw_p2, List.forall_mem_cons.mpr ⟨lw_p3, List.forall_mem_cons.mpr ⟨lw_p4, List.forall_mem_cons.mpr ⟨lw_p5, List.forall_mem_cons.mpr ⟨lw_p6, List.forall_mem_cons.mpr ⟨lw_p7, List.forall_mem_cons.mpr ⟨lw_p8, List.forall_mem_cons.mpr ⟨lw_p9, List.forall_mem_cons.mpr ⟨lw_p10, List.forall_mem_cons.mpr ⟨lw_p11, List.forall_mem_cons.mpr ⟨lw_p12, List.forall_mem_cons.mpr ⟨lw_p13, List.forall_mem_cons.mpr ⟨lw_p14, List.forall_mem_cons.mpr ⟨lw_p15, fun _ h => absurd h List.not_mem_nil⟩⟩⟩⟩⟩⟩⟩⟩⟩⟩⟩⟩⟩⟩⟩⟩
theorem lw_p16 : lw_okq (⟨"SilenceBall$Law", "add", "(I)V"⟩, 4) := ⟨⟨by decide +kernel, by decide +kernel⟩, List.mem_of_getElem? (i := 81) (by decide +kernel), List.mem_of_getElem? (i := 682) (by decide +kernel), List.mem_of_getElem? (i := 683) (by decide +kernel)⟩
theorem lw_p17 : lw_okq (⟨"SilenceBall", "liftMarks", "()V"⟩, 12) := ⟨⟨by decide +kernel, by decide +kernel⟩, List.mem_of_getElem? (i := 27) (by decide +kernel), List.mem_of_getElem? (i := 722) (by decide +kernel), List.mem_of_getElem? (i := 723) (by decide +kernel)⟩
theorem lw_p18 : lw_okq (⟨"SilenceBall$Evening", "readLine", "(LSilenceBall$Tape;LSilenceBall$House;)Z"⟩, 5) := ⟨⟨by decide +kernel, by decide +kernel⟩, List.mem_of_getElem? (i := 224) (by decide +kernel), List.mem_of_getElem? (i := 740) (by decide +kernel), List.mem_of_getElem? (i := 741) (by decide +kernel)⟩
theorem lw_p19 : lw_okq (⟨"SilenceBall$Evening", "readName", "(LSilenceBall$Tape;[JI[I)Z"⟩, 5) := ⟨⟨by decide +kernel, by decide +kernel⟩, List.mem_of_getElem? (i := 224) (by decide +kernel), List.mem_of_getElem? (i := 746) (by decide +kernel), List.mem_of_getElem? (i := 747) (by decide +kernel)⟩
theorem lw_p20 : lw_okq (⟨"SilenceBall$Scene", "wantsBelt", "(I)Z"⟩, 9) := ⟨⟨by decide +kernel, by decide +kernel⟩, List.mem_of_getElem? (i := 247) (by decide +kernel), List.mem_of_getElem? (i := 810) (by decide +kernel), List.mem_of_getElem? (i := 811) (by decide +kernel)⟩
theorem lw_p21 : lw_okq (⟨"SilenceBall$Scene", "drowns", "(I)Z"⟩, 9) := ⟨⟨by decide +kernel, by decide +kernel⟩, List.mem_of_getElem? (i := 247) (by decide +kernel), List.mem_of_getElem? (i := 872) (by decide +kernel), List.mem_of_getElem? (i := 873) (by decide +kernel)⟩
theorem lw_p22 : lw_okq (⟨"SilenceBall$Scene", "comeNearer", "(I)V"⟩, 9) := ⟨⟨by decide +kernel, by decide +kernel⟩, List.mem_of_getElem? (i := 247) (by decide +kernel), List.mem_of_getElem? (i := 888) (by decide +kernel), List.mem_of_getElem? (i := 889) (by decide +kernel)⟩
theorem lw_p23 : lw_okq (⟨"SilenceBall$Scene", "rise", "()V"⟩, 9) := ⟨⟨by decide +kernel, by decide +kernel⟩, List.mem_of_getElem? (i := 247) (by decide +kernel), List.mem_of_getElem? (i := 892) (by decide +kernel), List.mem_of_getElem? (i := 893) (by decide +kernel)⟩
theorem lw_p24 : lw_okq (⟨"SilenceBall$Law", "push", "(I)V"⟩, 4) := ⟨⟨by decide +kernel, by decide +kernel⟩, List.mem_of_getElem? (i := 81) (by decide +kernel), List.mem_of_getElem? (i := 914) (by decide +kernel), List.mem_of_getElem? (i := 915) (by decide +kernel)⟩
theorem lw_p25 : lw_okq (⟨"SilenceBall$Law", "pop", "()I"⟩, 4) := ⟨⟨by decide +kernel, by decide +kernel⟩, List.mem_of_getElem? (i := 81) (by decide +kernel), List.mem_of_getElem? (i := 918) (by decide +kernel), List.mem_of_getElem? (i := 919) (by decide +kernel)⟩
theorem lw_p26 : lw_okq (⟨"SilenceBall$Evening", "play", "(ILSilenceBall$Scene;)I"⟩, 5) := ⟨⟨by decide +kernel, by decide +kernel⟩, List.mem_of_getElem? (i := 224) (by decide +kernel), List.mem_of_getElem? (i := 944) (by decide +kernel), List.mem_of_getElem? (i := 945) (by decide +kernel)⟩
theorem lw_p27 : lw_okq (⟨"SilenceBall", "goAhead", "(I)V"⟩, 12) := ⟨⟨by decide +kernel, by decide +kernel⟩, List.mem_of_getElem? (i := 27) (by decide +kernel), List.mem_of_getElem? (i := 978) (by decide +kernel), List.mem_of_getElem? (i := 979) (by decide +kernel)⟩
theorem lw_p28 : lw_okq (⟨"SilenceBall", "minutesUntil", "(II)I"⟩, 12) := ⟨⟨by decide +kernel, by decide +kernel⟩, List.mem_of_getElem? (i := 27) (by decide +kernel), List.mem_of_getElem? (i := 991) (by decide +kernel), List.mem_of_getElem? (i := 992) (by decide +kernel)⟩
theorem lw_p29 : lw_okq (⟨"SilenceBall$Rescue", "chooseGuests", "(II)V"⟩, 7) := ⟨⟨by decide +kernel, by decide +kernel⟩, List.mem_of_getElem? (i := 358) (by decide +kernel), List.mem_of_getElem? (i := 1046) (by decide +kernel), List.mem_of_getElem? (i := 1047) (by decide +kernel)⟩
theorem lw_p30 : lw_okq (⟨"SilenceBall$Rescue", "chooseBelts", "(II)Z"⟩, 7) := ⟨⟨by decide +kernel, by decide +kernel⟩, List.mem_of_getElem? (i := 358) (by decide +kernel), List.mem_of_getElem? (i := 1052) (by decide +kernel), List.mem_of_getElem? (i := 1053) (by decide +kernel)⟩
theorem lw_p31 : lw_okq (⟨"SilenceBall$Rescue", "keepTried", "(I)V"⟩, 7) := ⟨⟨by decide +kernel, by decide +kernel⟩, List.mem_of_getElem? (i := 358) (by decide +kernel), List.mem_of_getElem? (i := 1057) (by decide +kernel), List.mem_of_getElem? (i := 1058) (by decide +kernel)⟩
def lw_privs_2 : List (MethodName × Nat) := [(⟨"SilenceBall$Law", "add", "(I)V"⟩, 4), (⟨"SilenceBall", "liftMarks", "()V"⟩, 12), (⟨"SilenceBall$Evening", "readLine", "(LSilenceBall$Tape;LSilenceBall$House;)Z"⟩, 5), (⟨"SilenceBall$Evening", "readName", "(LSilenceBall$Tape;[JI[I)Z"⟩, 5), (⟨"SilenceBall$Scene", "wantsBelt", "(I)Z"⟩, 9), (⟨"SilenceBall$Scene", "drowns", "(I)Z"⟩, 9), (⟨"SilenceBall$Scene", "comeNearer", "(I)V"⟩, 9), (⟨"SilenceBall$Scene", "rise", "()V"⟩, 9), (⟨"SilenceBall$Law", "push", "(I)V"⟩, 4), (⟨"SilenceBall$Law", "pop", "()I"⟩, 4), (⟨"SilenceBall$Evening", "play", "(ILSilenceBall$Scene;)I"⟩, 5), (⟨"SilenceBall", "goAhead", "(I)V"⟩, 12), (⟨"SilenceBall", "minutesUntil", "(II)I"⟩, 12), (⟨"SilenceBall$Rescue", "chooseGuests", "(II)V"⟩, 7), (⟨"SilenceBall$Rescue", "chooseBelts", "(II)Z"⟩, 7), (⟨"SilenceBall$Rescue", "keepTried", "(I)V"⟩, 7)]
theorem lw_r2 : ∀ q ∈ lw_privs_2, lw_okq q := List.forall_mem_cons.mpr ⟨lw_p16, List.forall_mem_cons.mpr ⟨lw_p17, List.forall_mem_cons.mpr ⟨lw_p18, List.forall_mem_cons.mpr ⟨lw_p19, List.forall_mem_cons.mpr ⟨lw_p20, List.forall_mem_cons.mpr ⟨lw_p21, List.forall_mem_cons.mpr ⟨lw_p22, List.forall_mem_cons.mpr ⟨lw_p23, List.forall_mem_cons.mpr ⟨lw_p24, List.forall_mem_cons.mpr ⟨lw_p25, List.forall_mem_cons.mpr ⟨lw_p26, List.forall_mem_cons.mpr ⟨lw_p27, List.forall_mem_cons.mpr ⟨lw_p28, List.forall_mem_cons.mpr ⟨lw_p29, List.forall_mem_cons.mpr ⟨lw_p30, List.forall_mem_cons.mpr ⟨lw_p31, fun _ h => absurd h List.not_mem_nil⟩⟩⟩⟩⟩⟩⟩⟩⟩⟩⟩⟩⟩⟩⟩⟩
theorem lw_p32 : lw_okq (⟨"SilenceBall$House", "beltsFrom", "(II)I"⟩, 17) := ⟨⟨by decide +kernel, by decide +kernel⟩, List.mem_of_getElem? (i := 75) (by decide +kernel), List.mem_of_getElem? (i := 1076) (by decide +kernel), List.mem_of_getElem? (i := 1077) (by decide +kernel)⟩
theorem lw_p33 : lw_okq (⟨"SilenceBall$House", "guestsFrom", "(II)I"⟩, 17) := ⟨⟨by decide +kernel, by decide +kernel⟩, List.mem_of_getElem? (i := 75) (by decide +kernel), List.mem_of_getElem? (i := 1080) (by decide +kernel), List.mem_of_getElem? (i := 1081) (by decide +kernel)⟩
theorem lw_p34 : lw_okq (⟨"SilenceBall", "isSavedBy", "(III)Z"⟩, 12) := ⟨⟨by decide +kernel, by decide +kernel⟩, List.mem_of_getElem? (i := 27) (by decide +kernel), List.mem_of_getElem? (i := 1137) (by decide +kernel), List.mem_of_getElem? (i := 1138) (by decide +kernel)⟩
theorem lw_p35 : lw_okq (⟨"SilenceBall$Inquest", "mostAlike", "(II)I"⟩, 1) := ⟨⟨by decide +kernel, by decide +kernel⟩, List.mem_of_getElem? (i := 348) (by decide +kernel), List.mem_of_getElem? (i := 1185) (by decide +kernel), List.mem_of_getElem? (i := 1186) (by decide +kernel)⟩
theorem lw_p36 : lw_okq (⟨"SilenceBall$Inquest", "manyAsDeep", "(III)I"⟩, 1) := ⟨⟨by decide +kernel, by decide +kernel⟩, List.mem_of_getElem? (i := 348) (by decide +kernel), List.mem_of_getElem? (i := 1190) (by decide +kernel), List.mem_of_getElem? (i := 1191) (by decide +kernel)⟩
theorem lw_p37 : lw_okq (⟨"SilenceBall", "isSunkBy", "(III)Z"⟩, 12) := ⟨⟨by decide +kernel, by decide +kernel⟩, List.mem_of_getElem? (i := 27) (by decide +kernel), List.mem_of_getElem? (i := 1202) (by decide +kernel), List.mem_of_getElem? (i := 1203) (by decide +kernel)⟩
theorem lw_p38 : lw_okq (⟨"SilenceBall", "playBalls", "(II)I"⟩, 12) := ⟨⟨by decide +kernel, by decide +kernel⟩, List.mem_of_getElem? (i := 27) (by decide +kernel), List.mem_of_getElem? (i := 1210) (by decide +kernel), List.mem_of_getElem? (i := 1211) (by decide +kernel)⟩
theorem lw_p39 : lw_okq (⟨"SilenceBall", "dance", "(IIII)I"⟩, 12) := ⟨⟨by decide +kernel, by decide +kernel⟩, List.mem_of_getElem? (i := 27) (by decide +kernel), List.mem_of_getElem? (i := 1224) (by decide +kernel), List.mem_of_getElem? (i := 1225) (by decide +kernel)⟩
theorem lw_p40 : lw_okq (⟨"java/lang/Throwable", "fillInStackTrace", "(I)Ljava/lang/Throwable;"⟩, 6) := ⟨⟨by decide +kernel, by decide +kernel⟩, List.mem_of_getElem? (i := 1298) (by decide +kernel), List.mem_of_getElem? (i := 1296) (by decide +kernel), List.mem_of_getElem? (i := 1297) (by decide +kernel)⟩
theorem lw_p41 : lw_okq (⟨"SilenceBallModel", "lay", "(J)V"⟩, 34) := ⟨⟨by decide +kernel, by decide +kernel⟩, List.mem_of_getElem? (i := 1336) (by decide +kernel), List.mem_of_getElem? (i := 1334) (by decide +kernel), List.mem_of_getElem? (i := 1335) (by decide +kernel)⟩
theorem lw_p42 : lw_okq (⟨"SilenceBallModel", "standsAsAlways", "(I)V"⟩, 34) := ⟨⟨by decide +kernel, by decide +kernel⟩, List.mem_of_getElem? (i := 1336) (by decide +kernel), List.mem_of_getElem? (i := 1371) (by decide +kernel), List.mem_of_getElem? (i := 1372) (by decide +kernel)⟩
theorem lw_p43 : lw_okq (⟨"SilenceBallModel", "begins", "()V"⟩, 34) := ⟨⟨by decide +kernel, by decide +kernel⟩, List.mem_of_getElem? (i := 1336) (by decide +kernel), List.mem_of_getElem? (i := 1375) (by decide +kernel), List.mem_of_getElem? (i := 1376) (by decide +kernel)⟩
theorem lw_p44 : lw_okq (⟨"SilenceBallModel", "starts", "(I)V"⟩, 34) := ⟨⟨by decide +kernel, by decide +kernel⟩, List.mem_of_getElem? (i := 1336) (by decide +kernel), List.mem_of_getElem? (i := 1379) (by decide +kernel), List.mem_of_getElem? (i := 1380) (by decide +kernel)⟩
theorem lw_p45 : lw_okq (⟨"SilenceBallModel", "guests", "()I"⟩, 34) := ⟨⟨by decide +kernel, by decide +kernel⟩, List.mem_of_getElem? (i := 1336) (by decide +kernel), List.mem_of_getElem? (i := 1383) (by decide +kernel), List.mem_of_getElem? (i := 1384) (by decide +kernel)⟩
theorem lw_p46 : lw_okq (⟨"SilenceBallModel", "guestOf", "(II)I"⟩, 34) := ⟨⟨by decide +kernel, by decide +kernel⟩, List.mem_of_getElem? (i := 1336) (by decide +kernel), List.mem_of_getElem? (i := 1387) (by decide +kernel), List.mem_of_getElem? (i := 1388) (by decide +kernel)⟩
theorem lw_p47 : lw_okq (⟨"SilenceBallModel", "cutAll", "()V"⟩, 34) := ⟨⟨by decide +kernel, by decide +kernel⟩, List.mem_of_getElem? (i := 1336) (by decide +kernel), List.mem_of_getElem? (i := 1499) (by decide +kernel), List.mem_of_getElem? (i := 1500) (by decide +kernel)⟩
def lw_privs_3 : List (MethodName × Nat) := [(⟨"SilenceBall$House", "beltsFrom", "(II)I"⟩, 17), (⟨"SilenceBall$House", "guestsFrom", "(II)I"⟩, 17), (⟨"SilenceBall", "isSavedBy", "(III)Z"⟩, 12), (⟨"SilenceBall$Inquest", "mostAlike", "(II)I"⟩, 1), (⟨"SilenceBall$Inquest", "manyAsDeep", "(III)I"⟩, 1), (⟨"SilenceBall", "isSunkBy", "(III)Z"⟩, 12), (⟨"SilenceBall", "playBalls", "(II)I"⟩, 12), (⟨"SilenceBall", "dance", "(IIII)I"⟩, 12), (⟨"java/lang/Throwable", "fillInStackTrace", "(I)Ljava/lang/Throwable;"⟩, 6), (⟨"SilenceBallModel", "lay", "(J)V"⟩, 34), (⟨"SilenceBallModel", "standsAsAlways", "(I)V"⟩, 34), (⟨"SilenceBallModel", "begins", "()V"⟩, 34), (⟨"SilenceBallModel", "starts", "(I)V"⟩, 34), (⟨"SilenceBallModel", "guests", "()I"⟩, 34), (⟨"SilenceBallModel", "guestOf", "(II)I"⟩, 34), (⟨"SilenceBallModel", "cutAll", "()V"⟩, 34)]
theorem lw_r3 : ∀ q ∈ lw_privs_3, lw_okq q := List.forall_mem_cons.mpr ⟨lw_p32, List.forall_mem_cons.mpr ⟨lw_p33, List.forall_mem_cons.mpr ⟨lw_p34, List.forall_mem_cons.mpr ⟨lw_p35, List.forall_mem_cons.mpr ⟨lw_p36, List.forall_mem_cons.mpr ⟨lw_p37, List.forall_mem_cons.mpr ⟨lw_p38, List.forall_mem_cons.mpr ⟨lw_p39, List.forall_mem_cons.mpr ⟨lw_p40, List.forall_mem_cons.mpr ⟨lw_p41, List.forall_mem_cons.mpr ⟨lw_p42, List.forall_mem_cons.mpr ⟨lw_p43, List.forall_mem_cons.mpr ⟨lw_p44, List.forall_mem_cons.mpr ⟨lw_p45, List.forall_mem_cons.mpr ⟨lw_p46, List.forall_mem_cons.mpr ⟨lw_p47, fun _ h => absurd h List.not_mem_nil⟩⟩⟩⟩⟩⟩⟩⟩⟩⟩⟩⟩⟩⟩⟩⟩
theorem lw_p48 : lw_okq (⟨"SilenceBallModel", "readLine", "()V"⟩, 34) := ⟨⟨by decide +kernel, by decide +kernel⟩, List.mem_of_getElem? (i := 1336) (by decide +kernel), List.mem_of_getElem? (i := 1518) (by decide +kernel), List.mem_of_getElem? (i := 1519) (by decide +kernel)⟩
theorem lw_p49 : lw_okq (⟨"SilenceBallModel", "isWord", "(I)Z"⟩, 34) := ⟨⟨by decide +kernel, by decide +kernel⟩, List.mem_of_getElem? (i := 1336) (by decide +kernel), List.mem_of_getElem? (i := 1522) (by decide +kernel), List.mem_of_getElem? (i := 1523) (by decide +kernel)⟩
theorem lw_p50 : lw_okq (⟨"SilenceBallModel", "readGuest", "()V"⟩, 34) := ⟨⟨by decide +kernel, by decide +kernel⟩, List.mem_of_getElem? (i := 1336) (by decide +kernel), List.mem_of_getElem? (i := 1526) (by decide +kernel), List.mem_of_getElem? (i := 1527) (by decide +kernel)⟩
theorem lw_p51 : lw_okq (⟨"SilenceBallModel", "readName", "(III)V"⟩, 34) := ⟨⟨by decide +kernel, by decide +kernel⟩, List.mem_of_getElem? (i := 1336) (by decide +kernel), List.mem_of_getElem? (i := 1530) (by decide +kernel), List.mem_of_getElem? (i := 1531) (by decide +kernel)⟩
theorem lw_p52 : lw_okq (⟨"SilenceBallModel", "wrong", "(I)V"⟩, 34) := ⟨⟨by decide +kernel, by decide +kernel⟩, List.mem_of_getElem? (i := 1336) (by decide +kernel), List.mem_of_getElem? (i := 1534) (by decide +kernel), List.mem_of_getElem? (i := 1535) (by decide +kernel)⟩
theorem lw_p53 : lw_okq (⟨"SilenceBallModel", "isName", "()Z"⟩, 34) := ⟨⟨by decide +kernel, by decide +kernel⟩, List.mem_of_getElem? (i := 1336) (by decide +kernel), List.mem_of_getElem? (i := 1538) (by decide +kernel), List.mem_of_getElem? (i := 1539) (by decide +kernel)⟩
theorem lw_p54 : lw_okq (⟨"SilenceBallModel", "wordHere", "(II)I"⟩, 34) := ⟨⟨by decide +kernel, by decide +kernel⟩, List.mem_of_getElem? (i := 1336) (by decide +kernel), List.mem_of_getElem? (i := 1542) (by decide +kernel), List.mem_of_getElem? (i := 1543) (by decide +kernel)⟩
theorem lw_p55 : lw_okq (⟨"SilenceBallModel", "nameAt", "(Z)I"⟩, 34) := ⟨⟨by decide +kernel, by decide +kernel⟩, List.mem_of_getElem? (i := 1336) (by decide +kernel), List.mem_of_getElem? (i := 1546) (by decide +kernel), List.mem_of_getElem? (i := 1547) (by decide +kernel)⟩
theorem lw_p56 : lw_okq (⟨"SilenceBallModel", "takeOne", "(II)I"⟩, 34) := ⟨⟨by decide +kernel, by decide +kernel⟩, List.mem_of_getElem? (i := 1336) (by decide +kernel), List.mem_of_getElem? (i := 1550) (by decide +kernel), List.mem_of_getElem? (i := 1551) (by decide +kernel)⟩
theorem lw_p57 : lw_okq (⟨"SilenceBallModel", "takeAfter", "(III)I"⟩, 34) := ⟨⟨by decide +kernel, by decide +kernel⟩, List.mem_of_getElem? (i := 1336) (by decide +kernel), List.mem_of_getElem? (i := 1554) (by decide +kernel), List.mem_of_getElem? (i := 1555) (by decide +kernel)⟩
theorem lw_p58 : lw_okq (⟨"SilenceBallModel", "takeWord", "(I)V"⟩, 34) := ⟨⟨by decide +kernel, by decide +kernel⟩, List.mem_of_getElem? (i := 1336) (by decide +kernel), List.mem_of_getElem? (i := 1558) (by decide +kernel), List.mem_of_getElem? (i := 1559) (by decide +kernel)⟩
theorem lw_p59 : lw_okq (⟨"SilenceBallModel", "hasWord", "(I)Z"⟩, 34) := ⟨⟨by decide +kernel, by decide +kernel⟩, List.mem_of_getElem? (i := 1336) (by decide +kernel), List.mem_of_getElem? (i := 1562) (by decide +kernel), List.mem_of_getElem? (i := 1563) (by decide +kernel)⟩
theorem lw_p60 : lw_okq (⟨"SilenceBallModel", "takeNumber", "(II)I"⟩, 34) := ⟨⟨by decide +kernel, by decide +kernel⟩, List.mem_of_getElem? (i := 1336) (by decide +kernel), List.mem_of_getElem? (i := 1566) (by decide +kernel), List.mem_of_getElem? (i := 1567) (by decide +kernel)⟩
theorem lw_p61 : lw_okq (⟨"SilenceBallModel", "readOnce", "()V"⟩, 34) := ⟨⟨by decide +kernel, by decide +kernel⟩, List.mem_of_getElem? (i := 1336) (by decide +kernel), List.mem_of_getElem? (i := 1570) (by decide +kernel), List.mem_of_getElem? (i := 1571) (by decide +kernel)⟩
theorem lw_p62 : lw_okq (⟨"SilenceBallModel", "whole", "(I)V"⟩, 34) := ⟨⟨by decide +kernel, by decide +kernel⟩, List.mem_of_getElem? (i := 1336) (by decide +kernel), List.mem_of_getElem? (i := 1574) (by decide +kernel), List.mem_of_getElem? (i := 1575) (by decide +kernel)⟩
theorem lw_p63 : lw_okq (⟨"SilenceBallModel", "test", "(I)V"⟩, 34) := ⟨⟨by decide +kernel, by decide +kernel⟩, List.mem_of_getElem? (i := 1336) (by decide +kernel), List.mem_of_getElem? (i := 1578) (by decide +kernel), List.mem_of_getElem? (i := 1579) (by decide +kernel)⟩
def lw_privs_4 : List (MethodName × Nat) := [(⟨"SilenceBallModel", "readLine", "()V"⟩, 34), (⟨"SilenceBallModel", "isWord", "(I)Z"⟩, 34), (⟨"SilenceBallModel", "readGuest", "()V"⟩, 34), (⟨"SilenceBallModel", "readName", "(III)V"⟩, 34), (⟨"SilenceBallModel", "wrong", "(I)V"⟩, 34), (⟨"SilenceBallModel", "isName", "()Z"⟩, 34), (⟨"SilenceBallModel", "wordHere", "(II)I"⟩, 34), (⟨"SilenceBallModel", "nameAt", "(Z)I"⟩, 34), (⟨"SilenceBallModel", "takeOne", "(II)I"⟩, 34), (⟨"SilenceBallModel", "takeAfter", "(III)I"⟩, 34), (⟨"SilenceBallModel", "takeWord", "(I)V"⟩, 34), (⟨"SilenceBallModel", "hasWord", "(I)Z"⟩, 34), (⟨"SilenceBallModel", "takeNumber", "(II)I"⟩, 34), (⟨"SilenceBallModel", "readOnce", "()V"⟩, 34), (⟨"SilenceBallModel", "whole", "(I)V"⟩, 34), (⟨"SilenceBallModel", "test", "(I)V"⟩, 34)]
theorem lw_r4 : ∀ q ∈ lw_privs_4, lw_okq q := List.forall_mem_cons.mpr ⟨lw_p48, List.forall_mem_cons.mpr ⟨lw_p49, List.forall_mem_cons.mpr ⟨lw_p50, List.forall_mem_cons.mpr ⟨lw_p51, List.forall_mem_cons.mpr ⟨lw_p52, List.forall_mem_cons.mpr ⟨lw_p53, List.forall_mem_cons.mpr ⟨lw_p54, List.forall_mem_cons.mpr ⟨lw_p55, List.forall_mem_cons.mpr ⟨lw_p56, List.forall_mem_cons.mpr ⟨lw_p57, List.forall_mem_cons.mpr ⟨lw_p58, List.forall_mem_cons.mpr ⟨lw_p59, List.forall_mem_cons.mpr ⟨lw_p60, List.forall_mem_cons.mpr ⟨lw_p61, List.forall_mem_cons.mpr ⟨lw_p62, List.forall_mem_cons.mpr ⟨lw_p63, fun _ h => absurd h List.not_mem_nil⟩⟩⟩⟩⟩⟩⟩⟩⟩⟩⟩⟩⟩⟩⟩⟩
theorem lw_p64 : lw_okq (⟨"SilenceBallModel", "sums", "(I)V"⟩, 34) := ⟨⟨by decide +kernel, by decide +kernel⟩, List.mem_of_getElem? (i := 1336) (by decide +kernel), List.mem_of_getElem? (i := 1582) (by decide +kernel), List.mem_of_getElem? (i := 1583) (by decide +kernel)⟩
theorem lw_p65 : lw_okq (⟨"SilenceBallModel", "products", "(I)V"⟩, 34) := ⟨⟨by decide +kernel, by decide +kernel⟩, List.mem_of_getElem? (i := 1336) (by decide +kernel), List.mem_of_getElem? (i := 1586) (by decide +kernel), List.mem_of_getElem? (i := 1587) (by decide +kernel)⟩
theorem lw_p66 : lw_okq (⟨"SilenceBallModel", "takePart", "(I)V"⟩, 34) := ⟨⟨by decide +kernel, by decide +kernel⟩, List.mem_of_getElem? (i := 1336) (by decide +kernel), List.mem_of_getElem? (i := 1590) (by decide +kernel), List.mem_of_getElem? (i := 1591) (by decide +kernel)⟩
theorem lw_p67 : lw_okq (⟨"SilenceBallModel", "isSign", "(I)Z"⟩, 34) := ⟨⟨by decide +kernel, by decide +kernel⟩, List.mem_of_getElem? (i := 1336) (by decide +kernel), List.mem_of_getElem? (i := 1594) (by decide +kernel), List.mem_of_getElem? (i := 1595) (by decide +kernel)⟩
theorem lw_p68 : lw_okq (⟨"SilenceBallModel", "emit", "(II)V"⟩, 34) := ⟨⟨by decide +kernel, by decide +kernel⟩, List.mem_of_getElem? (i := 1336) (by decide +kernel), List.mem_of_getElem? (i := 1598) (by decide +kernel), List.mem_of_getElem? (i := 1599) (by decide +kernel)⟩
theorem lw_p69 : lw_okq (⟨"SilenceBallModel", "hasSign", "(I)Z"⟩, 34) := ⟨⟨by decide +kernel, by decide +kernel⟩, List.mem_of_getElem? (i := 1336) (by decide +kernel), List.mem_of_getElem? (i := 1602) (by decide +kernel), List.mem_of_getElem? (i := 1603) (by decide +kernel)⟩
theorem lw_p70 : lw_okq (⟨"SilenceBallModel", "takeSign", "(I)V"⟩, 34) := ⟨⟨by decide +kernel, by decide +kernel⟩, List.mem_of_getElem? (i := 1336) (by decide +kernel), List.mem_of_getElem? (i := 1606) (by decide +kernel), List.mem_of_getElem? (i := 1607) (by decide +kernel)⟩
theorem lw_p71 : lw_okq (⟨"SilenceBallModel", "readEvening", "(II)V"⟩, 34) := ⟨⟨by decide +kernel, by decide +kernel⟩, List.mem_of_getElem? (i := 1336) (by decide +kernel), List.mem_of_getElem? (i := 1614) (by decide +kernel), List.mem_of_getElem? (i := 1615) (by decide +kernel)⟩
theorem lw_p72 : lw_okq (⟨"SilenceBallModel", "takeTold", "(I)I"⟩, 34) := ⟨⟨by decide +kernel, by decide +kernel⟩, List.mem_of_getElem? (i := 1336) (by decide +kernel), List.mem_of_getElem? (i := 1618) (by decide +kernel), List.mem_of_getElem? (i := 1619) (by decide +kernel)⟩
theorem lw_p73 : lw_okq (⟨"SilenceBallModel", "isGuest", "(I)Z"⟩, 34) := ⟨⟨by decide +kernel, by decide +kernel⟩, List.mem_of_getElem? (i := 1336) (by decide +kernel), List.mem_of_getElem? (i := 1629) (by decide +kernel), List.mem_of_getElem? (i := 1630) (by decide +kernel)⟩
theorem lw_p74 : lw_okq (⟨"SilenceBallModel", "weightOf", "(I)I"⟩, 34) := ⟨⟨by decide +kernel, by decide +kernel⟩, List.mem_of_getElem? (i := 1336) (by decide +kernel), List.mem_of_getElem? (i := 1633) (by decide +kernel), List.mem_of_getElem? (i := 1634) (by decide +kernel)⟩
theorem lw_p75 : lw_okq (⟨"SilenceBallModel", "isBelt", "(I)Z"⟩, 34) := ⟨⟨by decide +kernel, by decide +kernel⟩, List.mem_of_getElem? (i := 1336) (by decide +kernel), List.mem_of_getElem? (i := 1641) (by decide +kernel), List.mem_of_getElem? (i := 1642) (by decide +kernel)⟩
theorem lw_p76 : lw_okq (⟨"SilenceBallModel", "belts", "()I"⟩, 34) := ⟨⟨by decide +kernel, by decide +kernel⟩, List.mem_of_getElem? (i := 1336) (by decide +kernel), List.mem_of_getElem? (i := 1645) (by decide +kernel), List.mem_of_getElem? (i := 1646) (by decide +kernel)⟩
theorem lw_p77 : lw_okq (⟨"SilenceBallModel", "bearsOf", "(I)I"⟩, 34) := ⟨⟨by decide +kernel, by decide +kernel⟩, List.mem_of_getElem? (i := 1336) (by decide +kernel), List.mem_of_getElem? (i := 1649) (by decide +kernel), List.mem_of_getElem? (i := 1650) (by decide +kernel)⟩
theorem lw_p78 : lw_okq (⟨"SilenceBallModel", "isMan", "(I)Z"⟩, 34) := ⟨⟨by decide +kernel, by decide +kernel⟩, List.mem_of_getElem? (i := 1336) (by decide +kernel), List.mem_of_getElem? (i := 1657) (by decide +kernel), List.mem_of_getElem? (i := 1658) (by decide +kernel)⟩
theorem lw_p79 : lw_okq (⟨"SilenceBallModel", "men", "()I"⟩, 34) := ⟨⟨by decide +kernel, by decide +kernel⟩, List.mem_of_getElem? (i := 1336) (by decide +kernel), List.mem_of_getElem? (i := 1661) (by decide +kernel), List.mem_of_getElem? (i := 1662) (by decide +kernel)⟩
def lw_privs_5 : List (MethodName × Nat) := [(⟨"SilenceBallModel", "sums", "(I)V"⟩, 34), (⟨"SilenceBallModel", "products", "(I)V"⟩, 34), (⟨"SilenceBallModel", "takePart", "(I)V"⟩, 34), (⟨"SilenceBallModel", "isSign", "(I)Z"⟩, 34), (⟨"SilenceBallModel", "emit", "(II)V"⟩, 34), (⟨"SilenceBallModel", "hasSign", "(I)Z"⟩, 34), (⟨"SilenceBallModel", "takeSign", "(I)V"⟩, 34), (⟨"SilenceBallModel", "readEvening", "(II)V"⟩, 34), (⟨"SilenceBallModel", "takeTold", "(I)I"⟩, 34), (⟨"SilenceBallModel", "isGuest", "(I)Z"⟩, 34), (⟨"SilenceBallModel", "weightOf", "(I)I"⟩, 34), (⟨"SilenceBallModel", "isBelt", "(I)Z"⟩, 34), (⟨"SilenceBallModel", "belts", "()I"⟩, 34), (⟨"SilenceBallModel", "bearsOf", "(I)I"⟩, 34), (⟨"SilenceBallModel", "isMan", "(I)Z"⟩, 34), (⟨"SilenceBallModel", "men", "()I"⟩, 34)]
theorem lw_r5 : ∀ q ∈ lw_privs_5, lw_okq q := List.forall_mem_cons.mpr ⟨lw_p64, List.forall_mem_cons.mpr ⟨lw_p65, List.forall_mem_cons.mpr ⟨lw_p66, List.forall_mem_cons.mpr ⟨lw_p67, List.forall_mem_cons.mpr ⟨lw_p68, List.forall_mem_cons.mpr ⟨lw_p69, List.forall_mem_cons.mpr ⟨lw_p70, List.forall_mem_cons.mpr ⟨lw_p71, List.forall_mem_cons.mpr ⟨lw_p72, List.forall_mem_cons.mpr ⟨lw_p73, List.forall_mem_cons.mpr ⟨lw_p74, List.forall_mem_cons.mpr ⟨lw_p75, List.forall_mem_cons.mpr ⟨lw_p76, List.forall_mem_cons.mpr ⟨lw_p77, List.forall_mem_cons.mpr ⟨lw_p78, List.forall_mem_cons.mpr ⟨lw_p79, fun _ h => absurd h List.not_mem_nil⟩⟩⟩⟩⟩⟩⟩⟩⟩⟩⟩⟩⟩⟩⟩⟩
theorem lw_p80 : lw_okq (⟨"SilenceBallModel", "manOf", "(II)I"⟩, 34) := ⟨⟨by decide +kernel, by decide +kernel⟩, List.mem_of_getElem? (i := 1336) (by decide +kernel), List.mem_of_getElem? (i := 1665) (by decide +kernel), List.mem_of_getElem? (i := 1666) (by decide +kernel)⟩
theorem lw_p81 : lw_okq (⟨"SilenceBallModel", "isFree", "(II)Z"⟩, 34) := ⟨⟨by decide +kernel, by decide +kernel⟩, List.mem_of_getElem? (i := 1336) (by decide +kernel), List.mem_of_getElem? (i := 1669) (by decide +kernel), List.mem_of_getElem? (i := 1670) (by decide +kernel)⟩
theorem lw_p82 : lw_okq (⟨"SilenceBallModel", "mayCast", "(IIII)Z"⟩, 34) := ⟨⟨by decide +kernel, by decide +kernel⟩, List.mem_of_getElem? (i := 1336) (by decide +kernel), List.mem_of_getElem? (i := 1677) (by decide +kernel), List.mem_of_getElem? (i := 1678) (by decide +kernel)⟩
theorem lw_p83 : lw_okq (⟨"SilenceBallModel", "couldCast", "(III)Z"⟩, 34) := ⟨⟨by decide +kernel, by decide +kernel⟩, List.mem_of_getElem? (i := 1336) (by decide +kernel), List.mem_of_getElem? (i := 1681) (by decide +kernel), List.mem_of_getElem? (i := 1682) (by decide +kernel)⟩
theorem lw_p84 : lw_okq (⟨"SilenceBallModel", "isIn", "(II)Z"⟩, 34) := ⟨⟨by decide +kernel, by decide +kernel⟩, List.mem_of_getElem? (i := 1336) (by decide +kernel), List.mem_of_getElem? (i := 1685) (by decide +kernel), List.mem_of_getElem? (i := 1686) (by decide +kernel)⟩
theorem lw_p85 : lw_okq (⟨"SilenceBallModel", "gapTo", "(III)I"⟩, 34) := ⟨⟨by decide +kernel, by decide +kernel⟩, List.mem_of_getElem? (i := 1336) (by decide +kernel), List.mem_of_getElem? (i := 1689) (by decide +kernel), List.mem_of_getElem? (i := 1690) (by decide +kernel)⟩
theorem lw_p86 : lw_okq (⟨"SilenceBallModel", "wall", "(I)I"⟩, 34) := ⟨⟨by decide +kernel, by decide +kernel⟩, List.mem_of_getElem? (i := 1336) (by decide +kernel), List.mem_of_getElem? (i := 1693) (by decide +kernel), List.mem_of_getElem? (i := 1694) (by decide +kernel)⟩
theorem lw_p87 : lw_okq (⟨"SilenceBallModel", "keeps", "()V"⟩, 34) := ⟨⟨by decide +kernel, by decide +kernel⟩, List.mem_of_getElem? (i := 1336) (by decide +kernel), List.mem_of_getElem? (i := 1697) (by decide +kernel), List.mem_of_getElem? (i := 1698) (by decide +kernel)⟩
theorem lw_p88 : lw_okq (⟨"SilenceBallModel", "copies", "(III)V"⟩, 34) := ⟨⟨by decide +kernel, by decide +kernel⟩, List.mem_of_getElem? (i := 1336) (by decide +kernel), List.mem_of_getElem? (i := 1701) (by decide +kernel), List.mem_of_getElem? (i := 1702) (by decide +kernel)⟩
theorem lw_p89 : lw_okq (⟨"SilenceBallModel", "casts", "(IIII)V"⟩, 34) := ⟨⟨by decide +kernel, by decide +kernel⟩, List.mem_of_getElem? (i := 1336) (by decide +kernel), List.mem_of_getElem? (i := 1705) (by decide +kernel), List.mem_of_getElem? (i := 1706) (by decide +kernel)⟩
theorem lw_p90 : lw_okq (⟨"SilenceBallModel", "mayStop", "(II)Z"⟩, 34) := ⟨⟨by decide +kernel, by decide +kernel⟩, List.mem_of_getElem? (i := 1336) (by decide +kernel), List.mem_of_getElem? (i := 1717) (by decide +kernel), List.mem_of_getElem? (i := 1718) (by decide +kernel)⟩
theorem lw_p91 : lw_okq (⟨"SilenceBallModel", "stops", "(II)V"⟩, 34) := ⟨⟨by decide +kernel, by decide +kernel⟩, List.mem_of_getElem? (i := 1336) (by decide +kernel), List.mem_of_getElem? (i := 1721) (by decide +kernel), List.mem_of_getElem? (i := 1722) (by decide +kernel)⟩
theorem lw_p92 : lw_okq (⟨"SilenceBallModel", "passes", "(I)I"⟩, 34) := ⟨⟨by decide +kernel, by decide +kernel⟩, List.mem_of_getElem? (i := 1336) (by decide +kernel), List.mem_of_getElem? (i := 1729) (by decide +kernel), List.mem_of_getElem? (i := 1730) (by decide +kernel)⟩
theorem lw_p93 : lw_okq (⟨"SilenceBallModel", "who", "(II)I"⟩, 34) := ⟨⟨by decide +kernel, by decide +kernel⟩, List.mem_of_getElem? (i := 1336) (by decide +kernel), List.mem_of_getElem? (i := 1733) (by decide +kernel), List.mem_of_getElem? (i := 1734) (by decide +kernel)⟩
theorem lw_p94 : lw_okq (⟨"SilenceBallModel", "breathes", "(II)V"⟩, 34) := ⟨⟨by decide +kernel, by decide +kernel⟩, List.mem_of_getElem? (i := 1336) (by decide +kernel), List.mem_of_getElem? (i := 1737) (by decide +kernel), List.mem_of_getElem? (i := 1738) (by decide +kernel)⟩
theorem lw_p95 : lw_okq (⟨"SilenceBallModel", "isUnder", "(II)Z"⟩, 34) := ⟨⟨by decide +kernel, by decide +kernel⟩, List.mem_of_getElem? (i := 1336) (by decide +kernel), List.mem_of_getElem? (i := 1741) (by decide +kernel), List.mem_of_getElem? (i := 1742) (by decide +kernel)⟩
def lw_privs_6 : List (MethodName × Nat) := [(⟨"SilenceBallModel", "manOf", "(II)I"⟩, 34), (⟨"SilenceBallModel", "isFree", "(II)Z"⟩, 34), (⟨"SilenceBallModel", "mayCast", "(IIII)Z"⟩, 34), (⟨"SilenceBallModel", "couldCast", "(III)Z"⟩, 34), (⟨"SilenceBallModel", "isIn", "(II)Z"⟩, 34), (⟨"SilenceBallModel", "gapTo", "(III)I"⟩, 34), (⟨"SilenceBallModel", "wall", "(I)I"⟩, 34), (⟨"SilenceBallModel", "keeps", "()V"⟩, 34), (⟨"SilenceBallModel", "copies", "(III)V"⟩, 34), (⟨"SilenceBallModel", "casts", "(IIII)V"⟩, 34), (⟨"SilenceBallModel", "mayStop", "(II)Z"⟩, 34), (⟨"SilenceBallModel", "stops", "(II)V"⟩, 34), (⟨"SilenceBallModel", "passes", "(I)I"⟩, 34), (⟨"SilenceBallModel", "who", "(II)I"⟩, 34), (⟨"SilenceBallModel", "breathes", "(II)V"⟩, 34), (⟨"SilenceBallModel", "isUnder", "(II)Z"⟩, 34)]
theorem lw_r6 : ∀ q ∈ lw_privs_6, lw_okq q := List.forall_mem_cons.mpr ⟨lw_p80, List.forall_mem_cons.mpr ⟨lw_p81, List.forall_mem_cons.mpr ⟨lw_p82, List.forall_mem_cons.mpr ⟨lw_p83, List.forall_mem_cons.mpr ⟨lw_p84, List.forall_mem_cons.mpr ⟨lw_p85, List.forall_mem_cons.mpr ⟨lw_p86, List.forall_mem_cons.mpr ⟨lw_p87, List.forall_mem_cons.mpr ⟨lw_p88, List.forall_mem_cons.mpr ⟨lw_p89, List.forall_mem_cons.mpr ⟨lw_p90, List.forall_mem_cons.mpr ⟨lw_p91, List.forall_mem_cons.mpr ⟨lw_p92, List.forall_mem_cons.mpr ⟨lw_p93, List.forall_mem_cons.mpr ⟨lw_p94, List.forall_mem_cons.mpr ⟨lw_p95, fun _ h => absurd h List.not_mem_nil⟩⟩⟩⟩⟩⟩⟩⟩⟩⟩⟩⟩⟩⟩⟩⟩
theorem lw_p96 : lw_okq (⟨"SilenceBallModel", "doesBear", "(II)Z"⟩, 34) := ⟨⟨by decide +kernel, by decide +kernel⟩, List.mem_of_getElem? (i := 1336) (by decide +kernel), List.mem_of_getElem? (i := 1745) (by decide +kernel), List.mem_of_getElem? (i := 1746) (by decide +kernel)⟩
theorem lw_p97 : lw_okq (⟨"SilenceBallModel", "drawsIn", "(II)V"⟩, 34) := ⟨⟨by decide +kernel, by decide +kernel⟩, List.mem_of_getElem? (i := 1336) (by decide +kernel), List.mem_of_getElem? (i := 1749) (by decide +kernel), List.mem_of_getElem? (i := 1750) (by decide +kernel)⟩
theorem lw_p98 : lw_okq (⟨"SilenceBallModel", "worthAt", "(I)I"⟩, 34) := ⟨⟨by decide +kernel, by decide +kernel⟩, List.mem_of_getElem? (i := 1336) (by decide +kernel), List.mem_of_getElem? (i := 1756) (by decide +kernel), List.mem_of_getElem? (i := 1757) (by decide +kernel)⟩
theorem lw_p99 : lw_okq (⟨"SilenceBallModel", "underNow", "()I"⟩, 34) := ⟨⟨by decide +kernel, by decide +kernel⟩, List.mem_of_getElem? (i := 1336) (by decide +kernel), List.mem_of_getElem? (i := 1775) (by decide +kernel), List.mem_of_getElem? (i := 1776) (by decide +kernel)⟩
theorem lw_p100 : lw_okq (⟨"SilenceBallModel", "criers", "(I)I"⟩, 34) := ⟨⟨by decide +kernel, by decide +kernel⟩, List.mem_of_getElem? (i := 1336) (by decide +kernel), List.mem_of_getElem? (i := 1783) (by decide +kernel), List.mem_of_getElem? (i := 1784) (by decide +kernel)⟩
theorem lw_p101 : lw_okq (⟨"SilenceBallModel", "doesCry", "(II)Z"⟩, 34) := ⟨⟨by decide +kernel, by decide +kernel⟩, List.mem_of_getElem? (i := 1336) (by decide +kernel), List.mem_of_getElem? (i := 1787) (by decide +kernel), List.mem_of_getElem? (i := 1788) (by decide +kernel)⟩
theorem lw_p102 : lw_okq (⟨"SilenceBallModel", "triesNow", "()V"⟩, 34) := ⟨⟨by decide +kernel, by decide +kernel⟩, List.mem_of_getElem? (i := 1336) (by decide +kernel), List.mem_of_getElem? (i := 1795) (by decide +kernel), List.mem_of_getElem? (i := 1796) (by decide +kernel)⟩
theorem lw_p103 : lw_okq (⟨"SilenceBallModel", "sinksIn", "(I)I"⟩, 34) := ⟨⟨by decide +kernel, by decide +kernel⟩, List.mem_of_getElem? (i := 1336) (by decide +kernel), List.mem_of_getElem? (i := 1807) (by decide +kernel), List.mem_of_getElem? (i := 1808) (by decide +kernel)⟩
theorem lw_p104 : lw_okq (⟨"SilenceBallModel", "becomes", "(II)I"⟩, 34) := ⟨⟨by decide +kernel, by decide +kernel⟩, List.mem_of_getElem? (i := 1336) (by decide +kernel), List.mem_of_getElem? (i := 1811) (by decide +kernel), List.mem_of_getElem? (i := 1812) (by decide +kernel)⟩
theorem lw_p105 : lw_okq (⟨"SilenceBallModel", "fitsOf", "(I)I"⟩, 34) := ⟨⟨by decide +kernel, by decide +kernel⟩, List.mem_of_getElem? (i := 1336) (by decide +kernel), List.mem_of_getElem? (i := 1839) (by decide +kernel), List.mem_of_getElem? (i := 1840) (by decide +kernel)⟩
theorem lw_p106 : lw_okq (⟨"SilenceBallModel", "castsFrom", "(II)V"⟩, 34) := ⟨⟨by decide +kernel, by decide +kernel⟩, List.mem_of_getElem? (i := 1336) (by decide +kernel), List.mem_of_getElem? (i := 1851) (by decide +kernel), List.mem_of_getElem? (i := 1852) (by decide +kernel)⟩
theorem lw_p107 : lw_okq (⟨"SilenceBallModel", "beltsFrom", "(II)Z"⟩, 34) := ⟨⟨by decide +kernel, by decide +kernel⟩, List.mem_of_getElem? (i := 1336) (by decide +kernel), List.mem_of_getElem? (i := 1855) (by decide +kernel), List.mem_of_getElem? (i := 1856) (by decide +kernel)⟩
theorem lw_p108 : lw_okq (⟨"SilenceBallModel", "doesHold", "(II)Z"⟩, 34) := ⟨⟨by decide +kernel, by decide +kernel⟩, List.mem_of_getElem? (i := 1336) (by decide +kernel), List.mem_of_getElem? (i := 1867) (by decide +kernel), List.mem_of_getElem? (i := 1868) (by decide +kernel)⟩
theorem lw_p109 : lw_okq (⟨"SilenceBallModel", "bearOf", "(I)I"⟩, 34) := ⟨⟨by decide +kernel, by decide +kernel⟩, List.mem_of_getElem? (i := 1336) (by decide +kernel), List.mem_of_getElem? (i := 1871) (by decide +kernel), List.mem_of_getElem? (i := 1872) (by decide +kernel)⟩
theorem lw_p110 : lw_okq (⟨"SilenceBallModel", "enoughFor", "(I)I"⟩, 34) := ⟨⟨by decide +kernel, by decide +kernel⟩, List.mem_of_getElem? (i := 1336) (by decide +kernel), List.mem_of_getElem? (i := 1879) (by decide +kernel), List.mem_of_getElem? (i := 1880) (by decide +kernel)⟩
theorem lw_p111 : lw_okq (⟨"SilenceBallModel", "doesSave", "(III)Z"⟩, 34) := ⟨⟨by decide +kernel, by decide +kernel⟩, List.mem_of_getElem? (i := 1336) (by decide +kernel), List.mem_of_getElem? (i := 1895) (by decide +kernel), List.mem_of_getElem? (i := 1896) (by decide +kernel)⟩
def lw_privs_7 : List (MethodName × Nat) := [(⟨"SilenceBallModel", "doesBear", "(II)Z"⟩, 34), (⟨"SilenceBallModel", "drawsIn", "(II)V"⟩, 34), (⟨"SilenceBallModel", "worthAt", "(I)I"⟩, 34), (⟨"SilenceBallModel", "underNow", "()I"⟩, 34), (⟨"SilenceBallModel", "criers", "(I)I"⟩, 34), (⟨"SilenceBallModel", "doesCry", "(II)Z"⟩, 34), (⟨"SilenceBallModel", "triesNow", "()V"⟩, 34), (⟨"SilenceBallModel", "sinksIn", "(I)I"⟩, 34), (⟨"SilenceBallModel", "becomes", "(II)I"⟩, 34), (⟨"SilenceBallModel", "fitsOf", "(I)I"⟩, 34), (⟨"SilenceBallModel", "castsFrom", "(II)V"⟩, 34), (⟨"SilenceBallModel", "beltsFrom", "(II)Z"⟩, 34), (⟨"SilenceBallModel", "doesHold", "(II)Z"⟩, 34), (⟨"SilenceBallModel", "bearOf", "(I)I"⟩, 34), (⟨"SilenceBallModel", "enoughFor", "(I)I"⟩, 34), (⟨"SilenceBallModel", "doesSave", "(III)Z"⟩, 34)]
theorem lw_r7 : ∀ q ∈ lw_privs_7, lw_okq q := List.forall_mem_cons.mpr ⟨lw_p96, List.forall_mem_cons.mpr ⟨lw_p97, List.forall_mem_cons.mpr ⟨lw_p98, List.forall_mem_cons.mpr ⟨lw_p99, List.forall_mem_cons.mpr ⟨lw_p100, List.forall_mem_cons.mpr ⟨lw_p101, List.forall_mem_cons.mpr ⟨lw_p102, List.forall_mem_cons.mpr ⟨lw_p103, List.forall_mem_cons.mpr ⟨lw_p104, List.forall_mem_cons.mpr ⟨lw_p105, List.forall_mem_cons.mpr ⟨lw_p106, List.forall_mem_cons.mpr ⟨lw_p107, List.forall_mem_cons.mpr ⟨lw_p108, List.forall_mem_cons.mpr ⟨lw_p109, List.forall_mem_cons.mpr ⟨lw_p110, List.forall_mem_cons.mpr ⟨lw_p111, fun _ h => absurd h List.not_mem_nil⟩⟩⟩⟩⟩⟩⟩⟩⟩⟩⟩⟩⟩⟩⟩⟩
theorem lw_p112 : lw_okq (⟨"SilenceBallModel", "denseNow", "()I"⟩, 34) := ⟨⟨by decide +kernel, by decide +kernel⟩, List.mem_of_getElem? (i := 1336) (by decide +kernel), List.mem_of_getElem? (i := 1915) (by decide +kernel), List.mem_of_getElem? (i := 1916) (by decide +kernel)⟩
theorem lw_p113 : lw_okq (⟨"SilenceBallModel", "manyAt", "(I)I"⟩, 34) := ⟨⟨by decide +kernel, by decide +kernel⟩, List.mem_of_getElem? (i := 1336) (by decide +kernel), List.mem_of_getElem? (i := 1919) (by decide +kernel), List.mem_of_getElem? (i := 1920) (by decide +kernel)⟩
theorem lw_p114 : lw_okq (⟨"SilenceBallModel", "holesNow", "()I"⟩, 34) := ⟨⟨by decide +kernel, by decide +kernel⟩, List.mem_of_getElem? (i := 1336) (by decide +kernel), List.mem_of_getElem? (i := 1939) (by decide +kernel), List.mem_of_getElem? (i := 1940) (by decide +kernel)⟩
theorem lw_p115 : lw_okq (⟨"SilenceBallModel", "depthsNow", "()V"⟩, 34) := ⟨⟨by decide +kernel, by decide +kernel⟩, List.mem_of_getElem? (i := 1336) (by decide +kernel), List.mem_of_getElem? (i := 1943) (by decide +kernel), List.mem_of_getElem? (i := 1944) (by decide +kernel)⟩
theorem lw_p116 : lw_okq (⟨"SilenceBallModel", "drawsDeed", "()Z"⟩, 34) := ⟨⟨by decide +kernel, by decide +kernel⟩, List.mem_of_getElem? (i := 1336) (by decide +kernel), List.mem_of_getElem? (i := 1967) (by decide +kernel), List.mem_of_getElem? (i := 1968) (by decide +kernel)⟩
theorem lw_p117 : lw_okq (⟨"SilenceBallModel", "draw", "(I)I"⟩, 34) := ⟨⟨by decide +kernel, by decide +kernel⟩, List.mem_of_getElem? (i := 1336) (by decide +kernel), List.mem_of_getElem? (i := 1971) (by decide +kernel), List.mem_of_getElem? (i := 1972) (by decide +kernel)⟩
def lw_privs_8 : List (MethodName × Nat) := [(⟨"SilenceBallModel", "denseNow", "()I"⟩, 34), (⟨"SilenceBallModel", "manyAt", "(I)I"⟩, 34), (⟨"SilenceBallModel", "holesNow", "()I"⟩, 34), (⟨"SilenceBallModel", "depthsNow", "()V"⟩, 34), (⟨"SilenceBallModel", "drawsDeed", "()Z"⟩, 34), (⟨"SilenceBallModel", "draw", "(I)I"⟩, 34)]
theorem lw_r8 : ∀ q ∈ lw_privs_8, lw_okq q := List.forall_mem_cons.mpr ⟨lw_p112, List.forall_mem_cons.mpr ⟨lw_p113, List.forall_mem_cons.mpr ⟨lw_p114, List.forall_mem_cons.mpr ⟨lw_p115, List.forall_mem_cons.mpr ⟨lw_p116, List.forall_mem_cons.mpr ⟨lw_p117, fun _ h => absurd h List.not_mem_nil⟩⟩⟩⟩⟩⟩
def lw_privs : List (MethodName × Nat) := lw_privs_1 ++ (lw_privs_2 ++ (lw_privs_3 ++ (lw_privs_4 ++ (lw_privs_5 ++ (lw_privs_6 ++ (lw_privs_7 ++ (lw_privs_8)))))))
def lw_tbl : List Cond := k2_sels lw_privs ++ tables_1
theorem lw_privs_ok : ∀ q ∈ lw_privs, lw_okq q := by
  show ∀ q ∈ lw_privs_1 ++ (lw_privs_2 ++ (lw_privs_3 ++ (lw_privs_4 ++ (lw_privs_5 ++ (lw_privs_6 ++ (lw_privs_7 ++ (lw_privs_8))))))), lw_okq q
  exact List.forall_mem_append.mpr ⟨lw_r1, List.forall_mem_append.mpr ⟨lw_r2, List.forall_mem_append.mpr ⟨lw_r3, List.forall_mem_append.mpr ⟨lw_r4, List.forall_mem_append.mpr ⟨lw_r5, List.forall_mem_append.mpr ⟨lw_r6, List.forall_mem_append.mpr ⟨lw_r7, lw_r8⟩⟩⟩⟩⟩⟩⟩
/-- the good words of the tables: every method's list is its own code and these -/
def xG : List Cond := lw_tbl.filter goodWord
theorem xG_in {w : Cond} (i : Nat) (h : lw_tbl[i]? = some w) (hg : goodWord w = true) : w ∈ xG := List.mem_filter.mpr ⟨List.mem_of_getElem? h, hg⟩
theorem xG_good : ∀ w ∈ xG, goodWord w = true := fun _ h => (List.mem_filter.mp h).2
theorem xG_tbl : ∀ w ∈ xG, w ∈ lw_tbl := fun _ h => (List.mem_filter.mp h).1
end
section
def xR0 : String := "SilenceBall$Acts"
def xT0 : u_T := fun k => match k with
  | 0 => ("SilenceBall$Acts", "ring", "[LSilenceBall$Scene;", true)
  | 1 => ("SilenceBall$Acts", "next", "I", false)
  | _ => ("SilenceBall$Acts", "kept", "I", false)
def xY0 : Nat → FieldType := fun k => match k with
  | 0 => .array (.object "SilenceBall$Scene")
  | 1 => .int
  | _ => .int
theorem xN0 : ∀ a, a < 3 → ∀ b, b < 3 → a ≠ b → (xT0 a).2.1 ≠ (xT0 b).2.1 := by decide +kernel
theorem xP0 : ∀ k, k < 3 → parseFieldDescriptor (xT0 k).2.2.1 = some (xY0 k) := by decide +kernel
theorem xI0 : ∀ w ∈ u_ws xR0 xT0 3, w ∈ xG := by
  show ∀ w ∈ [u_lay xR0 xT0 0, u_lay xR0 xT0 1, u_lay xR0 xT0 2], w ∈ xG
  exact List.forall_mem_cons.mpr ⟨xG_in 420 (by decide +kernel) (by decide +kernel), List.forall_mem_cons.mpr ⟨xG_in 422 (by decide +kernel) (by decide +kernel), List.forall_mem_cons.mpr ⟨xG_in 424 (by decide +kernel) (by decide +kernel), fun _ h => absurd h List.not_mem_nil⟩⟩⟩
def xR1 : String := "SilenceBall$Evening"
def xT1 : u_T := fun k => match k with
  | 0 => ("SilenceBall$Evening", "lines", "I", false)
  | 1 => ("SilenceBall$Evening", "act", "[I", true)
  | 2 => ("SilenceBall$Evening", "man", "[I", true)
  | 3 => ("SilenceBall$Evening", "belt", "[I", true)
  | _ => ("SilenceBall$Evening", "guest", "[I", true)
def xY1 : Nat → FieldType := fun k => match k with
  | 0 => .int
  | 1 => .array .int
  | 2 => .array .int
  | 3 => .array .int
  | _ => .array .int
theorem xN1 : ∀ a, a < 5 → ∀ b, b < 5 → a ≠ b → (xT1 a).2.1 ≠ (xT1 b).2.1 := by decide +kernel
theorem xP1 : ∀ k, k < 5 → parseFieldDescriptor (xT1 k).2.2.1 = some (xY1 k) := by decide +kernel
theorem xI1 : ∀ w ∈ u_ws xR1 xT1 5, w ∈ xG := by
  show ∀ w ∈ [u_lay xR1 xT1 0, u_lay xR1 xT1 1, u_lay xR1 xT1 2, u_lay xR1 xT1 3, u_lay xR1 xT1 4], w ∈ xG
  exact List.forall_mem_cons.mpr ⟨xG_in 353 (by decide +kernel) (by decide +kernel), List.forall_mem_cons.mpr ⟨xG_in 355 (by decide +kernel) (by decide +kernel), List.forall_mem_cons.mpr ⟨xG_in 357 (by decide +kernel) (by decide +kernel), List.forall_mem_cons.mpr ⟨xG_in 359 (by decide +kernel) (by decide +kernel), List.forall_mem_cons.mpr ⟨xG_in 361 (by decide +kernel) (by decide +kernel), fun _ h => absurd h List.not_mem_nil⟩⟩⟩⟩⟩
def xR2 : String := "SilenceBall$House"
def xT2 : u_T := fun k => match k with
  | 0 => ("SilenceBall$House", "guests", "I", false)
  | 1 => ("SilenceBall$House", "belts", "I", false)
  | 2 => ("SilenceBall$House", "men", "I", false)
  | 3 => ("SilenceBall$House", "gaps", "I", false)
  | 4 => ("SilenceBall$House", "water", "I", false)
  | 5 => ("SilenceBall$House", "guestNames", "[J", true)
  | 6 => ("SilenceBall$House", "kind", "[I", true)
  | 7 => ("SilenceBall$House", "place", "[I", true)
  | 8 => ("SilenceBall$House", "chin", "[I", true)
  | 9 => ("SilenceBall$House", "breath", "[I", true)
  | 10 => ("SilenceBall$House", "weight", "[I", true)
  | 11 => ("SilenceBall$House", "beltNames", "[J", true)
  | 12 => ("SilenceBall$House", "bears", "[I", true)
  | 13 => ("SilenceBall$House", "manNames", "[J", true)
  | 14 => ("SilenceBall$House", "post", "[I", true)
  | 15 => ("SilenceBall$House", "reach", "[I", true)
  | _ => ("SilenceBall$House", "law", "LSilenceBall$Law;", true)
def xY2 : Nat → FieldType := fun k => match k with
  | 0 => .int
  | 1 => .int
  | 2 => .int
  | 3 => .int
  | 4 => .int
  | 5 => .array .long
  | 6 => .array .int
  | 7 => .array .int
  | 8 => .array .int
  | 9 => .array .int
  | 10 => .array .int
  | 11 => .array .long
  | 12 => .array .int
  | 13 => .array .long
  | 14 => .array .int
  | 15 => .array .int
  | _ => .object "SilenceBall$Law"
theorem xN2 : ∀ a, a < 17 → ∀ b, b < 17 → a ≠ b → (xT2 a).2.1 ≠ (xT2 b).2.1 := by decide +kernel
theorem xP2 : ∀ k, k < 17 → parseFieldDescriptor (xT2 k).2.2.1 = some (xY2 k) := by decide +kernel
theorem xI2 : ∀ w ∈ u_ws xR2 xT2 17, w ∈ xG := by
  show ∀ w ∈ [u_lay xR2 xT2 0, u_lay xR2 xT2 1, u_lay xR2 xT2 2, u_lay xR2 xT2 3, u_lay xR2 xT2 4, u_lay xR2 xT2 5, u_lay xR2 xT2 6, u_lay xR2 xT2 7, u_lay xR2 xT2 8, u_lay xR2 xT2 9, u_lay xR2 xT2 10, u_lay xR2 xT2 11, u_lay xR2 xT2 12, u_lay xR2 xT2 13, u_lay xR2 xT2 14, u_lay xR2 xT2 15, u_lay xR2 xT2 16], w ∈ xG
  exact List.forall_mem_cons.mpr ⟨xG_in 281 (by decide +kernel) (by decide +kernel), List.forall_mem_cons.mpr ⟨xG_in 283 (by decide +kernel) (by decide +kernel), List.forall_mem_cons.mpr ⟨xG_in 285 (by decide +kernel) (by decide +kernel), List.forall_mem_cons.mpr ⟨xG_in 287 (by decide +kernel) (by decide +kernel), List.forall_mem_cons.mpr ⟨xG_in 289 (by decide +kernel) (by decide +kernel), List.forall_mem_cons.mpr ⟨xG_in 291 (by decide +kernel) (by decide +kernel), List.forall_mem_cons.mpr ⟨xG_in 293 (by decide +kernel) (by decide +kernel), List.forall_mem_cons.mpr ⟨xG_in 295 (by decide +kernel) (by decide +kernel), List.forall_mem_cons.mpr ⟨xG_in 297 (by decide +kernel) (by decide +kernel), List.forall_mem_cons.mpr ⟨xG_in 299 (by decide +kernel) (by decide +kernel), List.forall_mem_cons.mpr ⟨xG_in 301 (by decide +kernel) (by decide +kernel), List.forall_mem_cons.mpr ⟨xG_in 303 (by decide +kernel) (by decide +kernel), List.forall_mem_cons.mpr ⟨xG_in 305 (by decide +kernel) (by decide +kernel), List.forall_mem_cons.mpr ⟨xG_in 307 (by decide +kernel) (by decide +kernel), List.forall_mem_cons.mpr ⟨xG_in 309 (by decide +kernel) (by decide +kernel), List.forall_mem_cons.mpr ⟨xG_in 311 (by decide +kernel) (by decide +kernel), List.forall_mem_cons.mpr ⟨xG_in 313 (by decide +kernel) (by decide +kernel), fun _ h => absurd h List.not_mem_nil⟩⟩⟩⟩⟩⟩⟩⟩⟩⟩⟩⟩⟩⟩⟩⟩⟩
def xR3 : String := "SilenceBall$Inquest"
def xT3 : u_T := fun k => match k with
  | _ => ("SilenceBall$Inquest", "course", "[I", true)
def xY3 : Nat → FieldType := fun k => match k with
  | _ => .array .int
theorem xN3 : ∀ a, a < 1 → ∀ b, b < 1 → a ≠ b → (xT3 a).2.1 ≠ (xT3 b).2.1 := by decide +kernel
theorem xP3 : ∀ k, k < 1 → parseFieldDescriptor (xT3 k).2.2.1 = some (xY3 k) := by decide +kernel
theorem xI3 : ∀ w ∈ u_ws xR3 xT3 1, w ∈ xG := by
  show ∀ w ∈ [u_lay xR3 xT3 0], w ∈ xG
  exact List.forall_mem_cons.mpr ⟨xG_in 472 (by decide +kernel) (by decide +kernel), fun _ h => absurd h List.not_mem_nil⟩
def xR4 : String := "SilenceBall$Law"
def xT4 : u_T := fun k => match k with
  | 0 => ("SilenceBall$Law", "codes", "[I", true)
  | 1 => ("SilenceBall$Law", "length", "I", false)
  | 2 => ("SilenceBall$Law", "pending", "[I", true)
  | _ => ("SilenceBall$Law", "height", "I", false)
def xY4 : Nat → FieldType := fun k => match k with
  | 0 => .array .int
  | 1 => .int
  | 2 => .array .int
  | _ => .int
theorem xN4 : ∀ a, a < 4 → ∀ b, b < 4 → a ≠ b → (xT4 a).2.1 ≠ (xT4 b).2.1 := by decide +kernel
theorem xP4 : ∀ k, k < 4 → parseFieldDescriptor (xT4 k).2.2.1 = some (xY4 k) := by decide +kernel
theorem xI4 : ∀ w ∈ u_ws xR4 xT4 4, w ∈ xG := by
  show ∀ w ∈ [u_lay xR4 xT4 0, u_lay xR4 xT4 1, u_lay xR4 xT4 2, u_lay xR4 xT4 3], w ∈ xG
  exact List.forall_mem_cons.mpr ⟨xG_in 208 (by decide +kernel) (by decide +kernel), List.forall_mem_cons.mpr ⟨xG_in 210 (by decide +kernel) (by decide +kernel), List.forall_mem_cons.mpr ⟨xG_in 212 (by decide +kernel) (by decide +kernel), List.forall_mem_cons.mpr ⟨xG_in 214 (by decide +kernel) (by decide +kernel), fun _ h => absurd h List.not_mem_nil⟩⟩⟩⟩
def xR5 : String := "SilenceBall$Mark"
def xT5 : u_T := fun k => match k with
  | 0 => ("SilenceBall$Mark", "laid", "Z", false)
  | 1 => ("SilenceBall$Mark", "scene", "LSilenceBall$Scene;", true)
  | _ => ("SilenceBall$Mark", "seen", "LSilenceBall$Seen;", true)
def xY5 : Nat → FieldType := fun k => match k with
  | 0 => .boolean
  | 1 => .object "SilenceBall$Scene"
  | _ => .object "SilenceBall$Seen"
theorem xN5 : ∀ a, a < 3 → ∀ b, b < 3 → a ≠ b → (xT5 a).2.1 ≠ (xT5 b).2.1 := by decide +kernel
theorem xP5 : ∀ k, k < 3 → parseFieldDescriptor (xT5 k).2.2.1 = some (xY5 k) := by decide +kernel
theorem xI5 : ∀ w ∈ u_ws xR5 xT5 3, w ∈ xG := by
  show ∀ w ∈ [u_lay xR5 xT5 0, u_lay xR5 xT5 1, u_lay xR5 xT5 2], w ∈ xG
  exact List.forall_mem_cons.mpr ⟨xG_in 456 (by decide +kernel) (by decide +kernel), List.forall_mem_cons.mpr ⟨xG_in 458 (by decide +kernel) (by decide +kernel), List.forall_mem_cons.mpr ⟨xG_in 460 (by decide +kernel) (by decide +kernel), fun _ h => absurd h List.not_mem_nil⟩⟩⟩
def xR6 : String := "SilenceBall$Rescue"
def xT6 : u_T := fun k => match k with
  | 0 => ("SilenceBall$Rescue", "house", "LSilenceBall$House;", true)
  | 1 => ("SilenceBall$Rescue", "scene", "LSilenceBall$Scene;", true)
  | 2 => ("SilenceBall$Rescue", "most", "I", false)
  | 3 => ("SilenceBall$Rescue", "guestOf", "[I", true)
  | 4 => ("SilenceBall$Rescue", "beltOf", "[I", true)
  | 5 => ("SilenceBall$Rescue", "triedGuest", "[I", true)
  | _ => ("SilenceBall$Rescue", "triedBelt", "[I", true)
def xY6 : Nat → FieldType := fun k => match k with
  | 0 => .object "SilenceBall$House"
  | 1 => .object "SilenceBall$Scene"
  | 2 => .int
  | 3 => .array .int
  | 4 => .array .int
  | 5 => .array .int
  | _ => .array .int
theorem xN6 : ∀ a, a < 7 → ∀ b, b < 7 → a ≠ b → (xT6 a).2.1 ≠ (xT6 b).2.1 := by decide +kernel
theorem xP6 : ∀ k, k < 7 → parseFieldDescriptor (xT6 k).2.2.1 = some (xY6 k) := by decide +kernel
theorem xI6 : ∀ w ∈ u_ws xR6 xT6 7, w ∈ xG := by
  show ∀ w ∈ [u_lay xR6 xT6 0, u_lay xR6 xT6 1, u_lay xR6 xT6 2, u_lay xR6 xT6 3, u_lay xR6 xT6 4, u_lay xR6 xT6 5, u_lay xR6 xT6 6], w ∈ xG
  exact List.forall_mem_cons.mpr ⟨xG_in 491 (by decide +kernel) (by decide +kernel), List.forall_mem_cons.mpr ⟨xG_in 493 (by decide +kernel) (by decide +kernel), List.forall_mem_cons.mpr ⟨xG_in 495 (by decide +kernel) (by decide +kernel), List.forall_mem_cons.mpr ⟨xG_in 497 (by decide +kernel) (by decide +kernel), List.forall_mem_cons.mpr ⟨xG_in 499 (by decide +kernel) (by decide +kernel), List.forall_mem_cons.mpr ⟨xG_in 501 (by decide +kernel) (by decide +kernel), List.forall_mem_cons.mpr ⟨xG_in 503 (by decide +kernel) (by decide +kernel), fun _ h => absurd h List.not_mem_nil⟩⟩⟩⟩⟩⟩⟩
def xR7 : String := "SilenceBall$RoomReader"
def xT7 : u_T := fun k => match k with
  | 0 => ("SilenceBall$RoomReader", "draft", "LSilenceBall$House;", true)
  | 1 => ("SilenceBall$RoomReader", "tape", "LSilenceBall$Tape;", true)
  | 2 => ("SilenceBall$RoomReader", "gapsTold", "Z", false)
  | 3 => ("SilenceBall$RoomReader", "waterTold", "Z", false)
  | _ => ("SilenceBall$RoomReader", "lawTold", "Z", false)
def xY7 : Nat → FieldType := fun k => match k with
  | 0 => .object "SilenceBall$House"
  | 1 => .object "SilenceBall$Tape"
  | 2 => .boolean
  | 3 => .boolean
  | _ => .boolean
theorem xN7 : ∀ a, a < 5 → ∀ b, b < 5 → a ≠ b → (xT7 a).2.1 ≠ (xT7 b).2.1 := by decide +kernel
theorem xP7 : ∀ k, k < 5 → parseFieldDescriptor (xT7 k).2.2.1 = some (xY7 k) := by decide +kernel
theorem xI7 : ∀ w ∈ u_ws xR7 xT7 5, w ∈ xG := by
  show ∀ w ∈ [u_lay xR7 xT7 0, u_lay xR7 xT7 1, u_lay xR7 xT7 2, u_lay xR7 xT7 3, u_lay xR7 xT7 4], w ∈ xG
  exact List.forall_mem_cons.mpr ⟨xG_in 330 (by decide +kernel) (by decide +kernel), List.forall_mem_cons.mpr ⟨xG_in 332 (by decide +kernel) (by decide +kernel), List.forall_mem_cons.mpr ⟨xG_in 334 (by decide +kernel) (by decide +kernel), List.forall_mem_cons.mpr ⟨xG_in 336 (by decide +kernel) (by decide +kernel), List.forall_mem_cons.mpr ⟨xG_in 338 (by decide +kernel) (by decide +kernel), fun _ h => absurd h List.not_mem_nil⟩⟩⟩⟩⟩
def xR8 : String := "SilenceBall$Scene"
def xT8 : u_T := fun k => match k with
  | 0 => ("SilenceBall$Scene", "house", "LSilenceBall$House;", true)
  | 1 => ("SilenceBall$Scene", "place", "[I", true)
  | 2 => ("SilenceBall$Scene", "breath", "[I", true)
  | 3 => ("SilenceBall$Scene", "state", "[I", true)
  | 4 => ("SilenceBall$Scene", "belt", "[I", true)
  | 5 => ("SilenceBall$Scene", "busy", "I", false)
  | 6 => ("SilenceBall$Scene", "gaps", "I", false)
  | 7 => ("SilenceBall$Scene", "depth", "I", false)
  | _ => ("SilenceBall$Scene", "minutes", "I", false)
def xY8 : Nat → FieldType := fun k => match k with
  | 0 => .object "SilenceBall$House"
  | 1 => .array .int
  | 2 => .array .int
  | 3 => .array .int
  | 4 => .array .int
  | 5 => .int
  | 6 => .int
  | 7 => .int
  | _ => .int
theorem xN8 : ∀ a, a < 9 → ∀ b, b < 9 → a ≠ b → (xT8 a).2.1 ≠ (xT8 b).2.1 := by decide +kernel
theorem xP8 : ∀ k, k < 9 → parseFieldDescriptor (xT8 k).2.2.1 = some (xY8 k) := by decide +kernel
theorem xI8 : ∀ w ∈ u_ws xR8 xT8 9, w ∈ xG := by
  show ∀ w ∈ [u_lay xR8 xT8 0, u_lay xR8 xT8 1, u_lay xR8 xT8 2, u_lay xR8 xT8 3, u_lay xR8 xT8 4, u_lay xR8 xT8 5, u_lay xR8 xT8 6, u_lay xR8 xT8 7, u_lay xR8 xT8 8], w ∈ xG
  exact List.forall_mem_cons.mpr ⟨xG_in 388 (by decide +kernel) (by decide +kernel), List.forall_mem_cons.mpr ⟨xG_in 390 (by decide +kernel) (by decide +kernel), List.forall_mem_cons.mpr ⟨xG_in 392 (by decide +kernel) (by decide +kernel), List.forall_mem_cons.mpr ⟨xG_in 394 (by decide +kernel) (by decide +kernel), List.forall_mem_cons.mpr ⟨xG_in 396 (by decide +kernel) (by decide +kernel), List.forall_mem_cons.mpr ⟨xG_in 398 (by decide +kernel) (by decide +kernel), List.forall_mem_cons.mpr ⟨xG_in 400 (by decide +kernel) (by decide +kernel), List.forall_mem_cons.mpr ⟨xG_in 402 (by decide +kernel) (by decide +kernel), List.forall_mem_cons.mpr ⟨xG_in 404 (by decide +kernel) (by decide +kernel), fun _ h => absurd h List.not_mem_nil⟩⟩⟩⟩⟩⟩⟩⟩⟩
def xR9 : String := "SilenceBall$Seen"
def xT9 : u_T := fun k => match k with
  | 0 => ("SilenceBall$Seen", "many", "I", false)
  | 1 => ("SilenceBall$Seen", "depth", "[I", true)
  | _ => ("SilenceBall$Seen", "minute", "[I", true)
def xY9 : Nat → FieldType := fun k => match k with
  | 0 => .int
  | 1 => .array .int
  | _ => .array .int
theorem xN9 : ∀ a, a < 3 → ∀ b, b < 3 → a ≠ b → (xT9 a).2.1 ≠ (xT9 b).2.1 := by decide +kernel
theorem xP9 : ∀ k, k < 3 → parseFieldDescriptor (xT9 k).2.2.1 = some (xY9 k) := by decide +kernel
theorem xI9 : ∀ w ∈ u_ws xR9 xT9 3, w ∈ xG := by
  show ∀ w ∈ [u_lay xR9 xT9 0, u_lay xR9 xT9 1, u_lay xR9 xT9 2], w ∈ xG
  exact List.forall_mem_cons.mpr ⟨xG_in 444 (by decide +kernel) (by decide +kernel), List.forall_mem_cons.mpr ⟨xG_in 446 (by decide +kernel) (by decide +kernel), List.forall_mem_cons.mpr ⟨xG_in 448 (by decide +kernel) (by decide +kernel), fun _ h => absurd h List.not_mem_nil⟩⟩⟩
def xR10 : String := "SilenceBall$Tape"
def xT10 : u_T := fun k => match k with
  | 0 => ("SilenceBall$Tape", "signs", "[C", true)
  | 1 => ("SilenceBall$Tape", "length", "I", false)
  | 2 => ("SilenceBall$Tape", "next", "I", false)
  | 3 => ("SilenceBall$Tape", "place", "I", false)
  | 4 => ("SilenceBall$Tape", "kind", "I", false)
  | 5 => ("SilenceBall$Tape", "value", "I", false)
  | 6 => ("SilenceBall$Tape", "letters", "J", false)
  | _ => ("SilenceBall$Tape", "fault", "I", false)
def xY10 : Nat → FieldType := fun k => match k with
  | 0 => .array .char
  | 1 => .int
  | 2 => .int
  | 3 => .int
  | 4 => .int
  | 5 => .int
  | 6 => .long
  | _ => .int
theorem xN10 : ∀ a, a < 8 → ∀ b, b < 8 → a ≠ b → (xT10 a).2.1 ≠ (xT10 b).2.1 := by decide +kernel
theorem xP10 : ∀ k, k < 8 → parseFieldDescriptor (xT10 k).2.2.1 = some (xY10 k) := by decide +kernel
theorem xI10 : ∀ w ∈ u_ws xR10 xT10 8, w ∈ xG := by
  show ∀ w ∈ [u_lay xR10 xT10 0, u_lay xR10 xT10 1, u_lay xR10 xT10 2, u_lay xR10 xT10 3, u_lay xR10 xT10 4, u_lay xR10 xT10 5, u_lay xR10 xT10 6, u_lay xR10 xT10 7], w ∈ xG
  exact List.forall_mem_cons.mpr ⟨xG_in 174 (by decide +kernel) (by decide +kernel), List.forall_mem_cons.mpr ⟨xG_in 176 (by decide +kernel) (by decide +kernel), List.forall_mem_cons.mpr ⟨xG_in 178 (by decide +kernel) (by decide +kernel), List.forall_mem_cons.mpr ⟨xG_in 180 (by decide +kernel) (by decide +kernel), List.forall_mem_cons.mpr ⟨xG_in 182 (by decide +kernel) (by decide +kernel), List.forall_mem_cons.mpr ⟨xG_in 184 (by decide +kernel) (by decide +kernel), List.forall_mem_cons.mpr ⟨xG_in 186 (by decide +kernel) (by decide +kernel), List.forall_mem_cons.mpr ⟨xG_in 188 (by decide +kernel) (by decide +kernel), fun _ h => absurd h List.not_mem_nil⟩⟩⟩⟩⟩⟩⟩⟩
def xR11 : String := "SilenceBall"
def xT11 : u_T := fun k => match k with
  | 0 => ("SilenceBall", "tape", "LSilenceBall$Tape;", true)
  | 1 => ("SilenceBall", "house", "LSilenceBall$House;", true)
  | 2 => ("SilenceBall", "roomReader", "LSilenceBall$RoomReader;", true)
  | 3 => ("SilenceBall", "evening", "LSilenceBall$Evening;", true)
  | 4 => ("SilenceBall", "draftEvening", "LSilenceBall$Evening;", true)
  | 5 => ("SilenceBall", "now", "LSilenceBall$Scene;", true)
  | 6 => ("SilenceBall", "ahead", "LSilenceBall$Scene;", true)
  | 7 => ("SilenceBall", "acts", "LSilenceBall$Acts;", true)
  | 8 => ("SilenceBall", "marks", "[LSilenceBall$Mark;", true)
  | 9 => ("SilenceBall", "seen", "LSilenceBall$Seen;", true)
  | 10 => ("SilenceBall", "inquest", "LSilenceBall$Inquest;", true)
  | _ => ("SilenceBall", "rescue", "LSilenceBall$Rescue;", true)
def xY11 : Nat → FieldType := fun k => match k with
  | 0 => .object "SilenceBall$Tape"
  | 1 => .object "SilenceBall$House"
  | 2 => .object "SilenceBall$RoomReader"
  | 3 => .object "SilenceBall$Evening"
  | 4 => .object "SilenceBall$Evening"
  | 5 => .object "SilenceBall$Scene"
  | 6 => .object "SilenceBall$Scene"
  | 7 => .object "SilenceBall$Acts"
  | 8 => .array (.object "SilenceBall$Mark")
  | 9 => .object "SilenceBall$Seen"
  | 10 => .object "SilenceBall$Inquest"
  | _ => .object "SilenceBall$Rescue"
theorem xN11 : ∀ a, a < 12 → ∀ b, b < 12 → a ≠ b → (xT11 a).2.1 ≠ (xT11 b).2.1 := by decide +kernel
theorem xP11 : ∀ k, k < 12 → parseFieldDescriptor (xT11 k).2.2.1 = some (xY11 k) := by decide +kernel
theorem xI11 : ∀ w ∈ u_ws xR11 xT11 12, w ∈ xG := by
  show ∀ w ∈ [u_lay xR11 xT11 0, u_lay xR11 xT11 1, u_lay xR11 xT11 2, u_lay xR11 xT11 3, u_lay xR11 xT11 4, u_lay xR11 xT11 5, u_lay xR11 xT11 6, u_lay xR11 xT11 7, u_lay xR11 xT11 8, u_lay xR11 xT11 9, u_lay xR11 xT11 10, u_lay xR11 xT11 11], w ∈ xG
  exact List.forall_mem_cons.mpr ⟨xG_in 518 (by decide +kernel) (by decide +kernel), List.forall_mem_cons.mpr ⟨xG_in 520 (by decide +kernel) (by decide +kernel), List.forall_mem_cons.mpr ⟨xG_in 522 (by decide +kernel) (by decide +kernel), List.forall_mem_cons.mpr ⟨xG_in 524 (by decide +kernel) (by decide +kernel), List.forall_mem_cons.mpr ⟨xG_in 526 (by decide +kernel) (by decide +kernel), List.forall_mem_cons.mpr ⟨xG_in 528 (by decide +kernel) (by decide +kernel), List.forall_mem_cons.mpr ⟨xG_in 530 (by decide +kernel) (by decide +kernel), List.forall_mem_cons.mpr ⟨xG_in 532 (by decide +kernel) (by decide +kernel), List.forall_mem_cons.mpr ⟨xG_in 534 (by decide +kernel) (by decide +kernel), List.forall_mem_cons.mpr ⟨xG_in 536 (by decide +kernel) (by decide +kernel), List.forall_mem_cons.mpr ⟨xG_in 538 (by decide +kernel) (by decide +kernel), List.forall_mem_cons.mpr ⟨xG_in 540 (by decide +kernel) (by decide +kernel), fun _ h => absurd h List.not_mem_nil⟩⟩⟩⟩⟩⟩⟩⟩⟩⟩⟩⟩
def xR12 : String := "SilenceBallModel"
def xT12 : u_T := fun k => match k with
  | 0 => ("SilenceBallModel", "thrown", "I", false)
  | 1 => ("SilenceBallModel", "tape", "[I", true)
  | 2 => ("SilenceBallModel", "taped", "I", false)
  | 3 => ("SilenceBallModel", "size", "I", false)
  | 4 => ("SilenceBallModel", "sort", "[I", true)
  | 5 => ("SilenceBallModel", "place", "[I", true)
  | 6 => ("SilenceBallModel", "value", "[J", true)
  | 7 => ("SilenceBallModel", "at", "I", false)
  | 8 => ("SilenceBallModel", "fault", "I", false)
  | 9 => ("SilenceBallModel", "words", "[J", true)
  | 10 => ("SilenceBallModel", "rooms", "[I", true)
  | 11 => ("SilenceBallModel", "op", "[I", true)
  | 12 => ("SilenceBallModel", "arg", "[I", true)
  | 13 => ("SilenceBallModel", "codes", "I", false)
  | 14 => ("SilenceBallModel", "names", "[J", true)
  | 15 => ("SilenceBallModel", "readNames", "[J", true)
  | 16 => ("SilenceBallModel", "nameOf", "[I", true)
  | 17 => ("SilenceBallModel", "readNameOf", "[I", true)
  | 18 => ("SilenceBallModel", "namesMany", "I", false)
  | 19 => ("SilenceBallModel", "readMany", "I", false)
  | 20 => ("SilenceBallModel", "once", "I", false)
  | 21 => ("SilenceBallModel", "lines", "[I", true)
  | 22 => ("SilenceBallModel", "facts", "[I", true)
  | 23 => ("SilenceBallModel", "pile", "[I", true)
  | 24 => ("SilenceBallModel", "state", "[I", true)
  | 25 => ("SilenceBallModel", "undos", "I", false)
  | 26 => ("SilenceBallModel", "isMarked", "[Z", true)
  | 27 => ("SilenceBallModel", "to", "[I", true)
  | 28 => ("SilenceBallModel", "by", "[I", true)
  | 29 => ("SilenceBallModel", "bestTo", "[I", true)
  | 30 => ("SilenceBallModel", "bestBy", "[I", true)
  | 31 => ("SilenceBallModel", "mostCast", "I", false)
  | 32 => ("SilenceBallModel", "depths", "[I", true)
  | _ => ("SilenceBallModel", "g", "J", false)
def xY12 : Nat → FieldType := fun k => match k with
  | 0 => .int
  | 1 => .array .int
  | 2 => .int
  | 3 => .int
  | 4 => .array .int
  | 5 => .array .int
  | 6 => .array .long
  | 7 => .int
  | 8 => .int
  | 9 => .array .long
  | 10 => .array .int
  | 11 => .array .int
  | 12 => .array .int
  | 13 => .int
  | 14 => .array .long
  | 15 => .array .long
  | 16 => .array .int
  | 17 => .array .int
  | 18 => .int
  | 19 => .int
  | 20 => .int
  | 21 => .array .int
  | 22 => .array .int
  | 23 => .array .int
  | 24 => .array .int
  | 25 => .int
  | 26 => .array .boolean
  | 27 => .array .int
  | 28 => .array .int
  | 29 => .array .int
  | 30 => .array .int
  | 31 => .int
  | 32 => .array .int
  | _ => .long
theorem xN12 : ∀ a, a < 34 → ∀ b, b < 34 → a ≠ b → (xT12 a).2.1 ≠ (xT12 b).2.1 := by decide +kernel
theorem xP12 : ∀ k, k < 34 → parseFieldDescriptor (xT12 k).2.2.1 = some (xY12 k) := by decide +kernel
theorem xI12 : ∀ w ∈ u_ws xR12 xT12 34, w ∈ xG := by
  show ∀ w ∈ [u_lay xR12 xT12 0, u_lay xR12 xT12 1, u_lay xR12 xT12 2, u_lay xR12 xT12 3, u_lay xR12 xT12 4, u_lay xR12 xT12 5, u_lay xR12 xT12 6, u_lay xR12 xT12 7, u_lay xR12 xT12 8, u_lay xR12 xT12 9, u_lay xR12 xT12 10, u_lay xR12 xT12 11, u_lay xR12 xT12 12, u_lay xR12 xT12 13, u_lay xR12 xT12 14, u_lay xR12 xT12 15, u_lay xR12 xT12 16, u_lay xR12 xT12 17, u_lay xR12 xT12 18, u_lay xR12 xT12 19, u_lay xR12 xT12 20, u_lay xR12 xT12 21, u_lay xR12 xT12 22, u_lay xR12 xT12 23, u_lay xR12 xT12 24, u_lay xR12 xT12 25, u_lay xR12 xT12 26, u_lay xR12 xT12 27, u_lay xR12 xT12 28, u_lay xR12 xT12 29, u_lay xR12 xT12 30, u_lay xR12 xT12 31, u_lay xR12 xT12 32, u_lay xR12 xT12 33], w ∈ xG
  exact List.forall_mem_cons.mpr ⟨xG_in 1542 (by decide +kernel) (by decide +kernel), List.forall_mem_cons.mpr ⟨xG_in 1544 (by decide +kernel) (by decide +kernel), List.forall_mem_cons.mpr ⟨xG_in 1546 (by decide +kernel) (by decide +kernel), List.forall_mem_cons.mpr ⟨xG_in 1548 (by decide +kernel) (by decide +kernel), List.forall_mem_cons.mpr ⟨xG_in 1550 (by decide +kernel) (by decide +kernel), List.forall_mem_cons.mpr ⟨xG_in 1552 (by decide +kernel) (by decide +kernel), List.forall_mem_cons.mpr ⟨xG_in 1554 (by decide +kernel) (by decide +kernel), List.forall_mem_cons.mpr ⟨xG_in 1556 (by decide +kernel) (by decide +kernel), List.forall_mem_cons.mpr ⟨xG_in 1558 (by decide +kernel) (by decide +kernel), List.forall_mem_cons.mpr ⟨xG_in 1560 (by decide +kernel) (by decide +kernel), List.forall_mem_cons.mpr ⟨xG_in 1562 (by decide +kernel) (by decide +kernel), List.forall_mem_cons.mpr ⟨xG_in 1564 (by decide +kernel) (by decide +kernel), List.forall_mem_cons.mpr ⟨xG_in 1566 (by decide +kernel) (by decide +kernel), List.forall_mem_cons.mpr ⟨xG_in 1568 (by decide +kernel) (by decide +kernel), List.forall_mem_cons.mpr ⟨xG_in 1570 (by decide +kernel) (by decide +kernel), List.forall_mem_cons.mpr ⟨xG_in 1572 (by decide +kernel) (by decide +kernel), List.forall_mem_cons.mpr ⟨xG_in 1574 (by decide +kernel) (by decide +kernel), List.forall_mem_cons.mpr ⟨xG_in 1576 (by decide +kernel) (by decide +kernel), List.forall_mem_cons.mpr ⟨xG_in 1578 (by decide +kernel) (by decide +kernel), List.forall_mem_cons.mpr ⟨xG_in 1580 (by decide +kernel) (by decide +kernel), List.forall_mem_cons.mpr ⟨xG_in 1582 (by decide +kernel) (by decide +kernel), List.forall_mem_cons.mpr ⟨xG_in 1584 (by decide +kernel) (by decide +kernel), List.forall_mem_cons.mpr ⟨xG_in 1586 (by decide +kernel) (by decide +kernel), List.forall_mem_cons.mpr ⟨xG_in 1588 (by decide +kernel) (by decide +kernel), List.forall_mem_cons.mpr ⟨xG_in 1590 (by decide +kernel) (by decide +kernel), List.forall_mem_cons.mpr ⟨xG_in 1592 (by decide +kernel) (by decide +kernel), List.forall_mem_cons.mpr ⟨xG_in 1594 (by decide +kernel) (by decide +kernel), List.forall_mem_cons.mpr ⟨xG_in 1596 (by decide +kernel) (by decide +kernel), List.forall_mem_cons.mpr ⟨xG_in 1598 (by decide +kernel) (by decide +kernel), List.forall_mem_cons.mpr ⟨xG_in 1600 (by decide +kernel) (by decide +kernel), List.forall_mem_cons.mpr ⟨xG_in 1602 (by decide +kernel) (by decide +kernel), List.forall_mem_cons.mpr ⟨xG_in 1604 (by decide +kernel) (by decide +kernel), List.forall_mem_cons.mpr ⟨xG_in 1606 (by decide +kernel) (by decide +kernel), List.forall_mem_cons.mpr ⟨xG_in 1608 (by decide +kernel) (by decide +kernel), fun _ h => absurd h List.not_mem_nil⟩⟩⟩⟩⟩⟩⟩⟩⟩⟩⟩⟩⟩⟩⟩⟩⟩⟩⟩⟩⟩⟩⟩⟩⟩⟩⟩⟩⟩⟩⟩⟩⟩⟩
abbrev xcl : List vw_C := [(xR0, xT0, 3), (xR1, xT1, 5), (xR2, xT2, 17), (xR3, xT3, 1), (xR4, xT4, 4), (xR5, xT5, 3), (xR6, xT6, 7), (xR7, xT7, 5), (xR8, xT8, 9), (xR9, xT9, 3), (xR10, xT10, 8), (xR11, xT11, 12), (xR12, xT12, 34)]
abbrev XQ : Type := Nat × Nat × Nat
/-- the slots of a class: .inl 0 an int, .inl 1 a long, .inl 3 a boolean, .inr f a reference, by the object's number -/
def xlay0 : List (Nat ⊕ (Nat → XQ)) := [.inr (fun i => (0, i, 1)), .inl 0, .inl 0]
def xlay1 : List (Nat ⊕ (Nat → XQ)) := [.inl 0, .inr (fun i => (1, i, 2)), .inr (fun i => (1, i, 3)), .inr (fun i => (1, i, 4)), .inr (fun i => (1, i, 5))]
def xlay2 : List (Nat ⊕ (Nat → XQ)) := [.inl 0, .inl 0, .inl 0, .inl 0, .inl 0, .inr (fun i => (2, i, 6)), .inr (fun i => (2, i, 7)), .inr (fun i => (2, i, 8)), .inr (fun i => (2, i, 9)), .inr (fun i => (2, i, 10)), .inr (fun i => (2, i, 11)), .inr (fun i => (2, i, 12)), .inr (fun i => (2, i, 13)), .inr (fun i => (2, i, 14)), .inr (fun i => (2, i, 15)), .inr (fun i => (2, i, 16)), .inr (fun i => (4, i, 0))]
def xlay3 : List (Nat ⊕ (Nat → XQ)) := [.inr (fun i => (3, i, 1))]
def xlay4 : List (Nat ⊕ (Nat → XQ)) := [.inr (fun i => (4, i, 1)), .inl 0, .inr (fun i => (4, i, 3)), .inl 0]
def xlay5 : List (Nat ⊕ (Nat → XQ)) := [.inl 3, .inr (fun i => (8, 18 + i, 0)), .inr (fun i => (9, 1 + i, 0))]
def xlay6 : List (Nat ⊕ (Nat → XQ)) := [.inr (fun _ => (2, 0, 0)), .inr (fun _ => (8, 0, 0)), .inl 0, .inr (fun i => (6, i, 4)), .inr (fun i => (6, i, 5)), .inr (fun i => (6, i, 6)), .inr (fun i => (6, i, 7))]
def xlay7 : List (Nat ⊕ (Nat → XQ)) := [.inr (fun _ => (2, 1, 0)), .inr (fun _ => (10, 0, 0)), .inl 3, .inl 3, .inl 3]
def xlay8 : List (Nat ⊕ (Nat → XQ)) := [.inr (fun _ => (2, 0, 0)), .inr (fun i => (8, i, 2)), .inr (fun i => (8, i, 3)), .inr (fun i => (8, i, 4)), .inr (fun i => (8, i, 5)), .inl 0, .inl 0, .inl 0, .inl 0]
def xlay9 : List (Nat ⊕ (Nat → XQ)) := [.inl 0, .inr (fun i => (9, i, 2)), .inr (fun i => (9, i, 3))]
def xlay10 : List (Nat ⊕ (Nat → XQ)) := [.inr (fun i => (10, i, 1)), .inl 0, .inl 0, .inl 0, .inl 0, .inl 0, .inl 1, .inl 0]
def xlay11 : List (Nat ⊕ (Nat → XQ)) := [.inr (fun _ => (10, 0, 0)), .inr (fun _ => (2, 0, 0)), .inr (fun _ => (7, 0, 0)), .inr (fun _ => (1, 0, 0)), .inr (fun _ => (1, 1, 0)), .inr (fun _ => (8, 0, 0)), .inr (fun _ => (8, 1, 0)), .inr (fun _ => (0, 0, 0)), .inr (fun i => (11, i, 9)), .inr (fun _ => (9, 0, 0)), .inr (fun _ => (3, 0, 0)), .inr (fun _ => (6, 0, 0))]
def xlay12 : List (Nat ⊕ (Nat → XQ)) := [.inl 0, .inr (fun i => (12, i, 2)), .inl 0, .inl 0, .inr (fun i => (12, i, 5)), .inr (fun i => (12, i, 6)), .inr (fun i => (12, i, 7)), .inl 0, .inl 0, .inr (fun i => (12, i, 10)), .inr (fun i => (12, i, 11)), .inr (fun i => (12, i, 12)), .inr (fun i => (12, i, 13)), .inl 0, .inr (fun i => (12, i, 15)), .inr (fun i => (12, i, 16)), .inr (fun i => (12, i, 17)), .inr (fun i => (12, i, 18)), .inl 0, .inl 0, .inl 0, .inr (fun i => (12, i, 22)), .inr (fun i => (12, i, 23)), .inr (fun i => (12, i, 24)), .inr (fun i => (12, i, 25)), .inl 0, .inr (fun i => (12, i, 27)), .inr (fun i => (12, i, 28)), .inr (fun i => (12, i, 29)), .inr (fun i => (12, i, 30)), .inr (fun i => (12, i, 31)), .inl 0, .inr (fun i => (12, i, 33)), .inl 1]
def xlay (t : Nat) : List (Nat ⊕ (Nat → XQ)) := [xlay0, xlay1, xlay2, xlay3, xlay4, xlay5, xlay6, xlay7, xlay8, xlay9, xlay10, xlay11, xlay12].getD t []
/-- the arrays of a class by the slot that holds them: kind (0 int, 1 long, 2 char, 3 boolean, 4 and 5 references, 8 the script, 9 none), length -/
def xarr (t j : Nat) : Nat × Nat := ([[(4, 16), (9, 0), (9, 0)], [(9, 0), (0, 40), (0, 40), (0, 40), (0, 40)], [(9, 0), (9, 0), (9, 0), (9, 0), (9, 0), (1, 6), (0, 6), (0, 6), (0, 6), (0, 6), (0, 6), (1, 5), (0, 5), (1, 3), (0, 3), (0, 3), (9, 0)], [(0, 210)], [(0, 1000), (9, 0), (0, 32), (9, 0)], [(9, 0), (9, 0), (9, 0)], [(9, 0), (9, 0), (9, 0), (0, 3), (0, 3), (0, 3), (0, 3)], [(9, 0), (9, 0), (9, 0), (9, 0), (9, 0)], [(9, 0), (0, 6), (0, 6), (0, 6), (0, 6), (9, 0), (9, 0), (9, 0), (9, 0)], [(9, 0), (0, 8), (0, 8)], [(2, 1000), (9, 0), (9, 0), (9, 0), (9, 0), (9, 0), (9, 0), (9, 0)], [(9, 0), (9, 0), (9, 0), (9, 0), (9, 0), (9, 0), (9, 0), (9, 0), (5, 4), (9, 0), (9, 0), (9, 0)], [(9, 0), (0, 1000), (9, 0), (9, 0), (0, 1002), (0, 1002), (1, 1002), (9, 0), (9, 0), (1, 27), (0, 120), (0, 2200), (0, 2200), (9, 0), (1, 14), (1, 14), (0, 14), (0, 14), (9, 0), (9, 0), (9, 0), (0, 330), (0, 4), (0, 1100), (0, 1081), (9, 0), (3, 4), (0, 3), (0, 3), (0, 3), (0, 3), (9, 0), (0, 210), (9, 0)], [(8, 0)], [(1, 1)]].getD t []).getD j (9, 0)
def xrow (kind k : Nat) : XQ := if kind = 4 then (8, 2 + k, 0) else (5, k, 0)
/-- all cells: class, number, 0 the object itself or 1 + the slot of its array -/
def xdom : List XQ := [(0, 0, 0), (0, 0, 1), (1, 0, 0), (1, 0, 2), (1, 0, 3), (1, 0, 4), (1, 0, 5), (1, 1, 0), (1, 1, 2), (1, 1, 3), (1, 1, 4), (1, 1, 5), (2, 0, 0), (2, 0, 6), (2, 0, 7), (2, 0, 8), (2, 0, 9), (2, 0, 10), (2, 0, 11), (2, 0, 12), (2, 0, 13), (2, 0, 14), (2, 0, 15), (2, 0, 16), (2, 1, 0), (2, 1, 6), (2, 1, 7), (2, 1, 8), (2, 1, 9), (2, 1, 10), (2, 1, 11), (2, 1, 12), (2, 1, 13), (2, 1, 14), (2, 1, 15), (2, 1, 16), (3, 0, 0), (3, 0, 1), (4, 0, 0), (4, 0, 1), (4, 0, 3), (4, 1, 0), (4, 1, 1), (4, 1, 3), (5, 0, 0), (5, 1, 0), (5, 2, 0), (5, 3, 0), (6, 0, 0), (6, 0, 4), (6, 0, 5), (6, 0, 6), (6, 0, 7), (7, 0, 0), (8, 0, 0), (8, 0, 2), (8, 0, 3), (8, 0, 4), (8, 0, 5), (8, 1, 0), (8, 1, 2), (8, 1, 3), (8, 1, 4), (8, 1, 5), (8, 2, 0), (8, 2, 2), (8, 2, 3), (8, 2, 4), (8, 2, 5), (8, 3, 0), (8, 3, 2), (8, 3, 3), (8, 3, 4), (8, 3, 5), (8, 4, 0), (8, 4, 2), (8, 4, 3), (8, 4, 4), (8, 4, 5), (8, 5, 0), (8, 5, 2), (8, 5, 3), (8, 5, 4), (8, 5, 5), (8, 6, 0), (8, 6, 2), (8, 6, 3), (8, 6, 4), (8, 6, 5), (8, 7, 0), (8, 7, 2), (8, 7, 3), (8, 7, 4), (8, 7, 5), (8, 8, 0), (8, 8, 2), (8, 8, 3), (8, 8, 4), (8, 8, 5), (8, 9, 0), (8, 9, 2), (8, 9, 3), (8, 9, 4), (8, 9, 5), (8, 10, 0), (8, 10, 2), (8, 10, 3), (8, 10, 4), (8, 10, 5), (8, 11, 0), (8, 11, 2), (8, 11, 3), (8, 11, 4), (8, 11, 5), (8, 12, 0), (8, 12, 2), (8, 12, 3), (8, 12, 4), (8, 12, 5), (8, 13, 0), (8, 13, 2), (8, 13, 3), (8, 13, 4), (8, 13, 5), (8, 14, 0), (8, 14, 2), (8, 14, 3), (8, 14, 4), (8, 14, 5), (8, 15, 0), (8, 15, 2), (8, 15, 3), (8, 15, 4), (8, 15, 5), (8, 16, 0), (8, 16, 2), (8, 16, 3), (8, 16, 4), (8, 16, 5), (8, 17, 0), (8, 17, 2), (8, 17, 3), (8, 17, 4), (8, 17, 5), (8, 18, 0), (8, 18, 2), (8, 18, 3), (8, 18, 4), (8, 18, 5), (8, 19, 0), (8, 19, 2), (8, 19, 3), (8, 19, 4), (8, 19, 5), (8, 20, 0), (8, 20, 2), (8, 20, 3), (8, 20, 4), (8, 20, 5), (8, 21, 0), (8, 21, 2), (8, 21, 3), (8, 21, 4), (8, 21, 5), (9, 0, 0), (9, 0, 2), (9, 0, 3), (9, 1, 0), (9, 1, 2), (9, 1, 3), (9, 2, 0), (9, 2, 2), (9, 2, 3), (9, 3, 0), (9, 3, 2), (9, 3, 3), (9, 4, 0), (9, 4, 2), (9, 4, 3), (10, 0, 0), (10, 0, 1), (11, 0, 0), (11, 0, 9), (12, 0, 0), (12, 0, 2), (12, 0, 5), (12, 0, 6), (12, 0, 7), (12, 0, 10), (12, 0, 11), (12, 0, 12), (12, 0, 13), (12, 0, 15), (12, 0, 16), (12, 0, 17), (12, 0, 18), (12, 0, 22), (12, 0, 23), (12, 0, 24), (12, 0, 25), (12, 0, 27), (12, 0, 28), (12, 0, 29), (12, 0, 30), (12, 0, 31), (12, 0, 33), (14, 0, 1)]
end
section
/-! THE ABSTRACT MACHINE: values, memory, and an interpreter of decoded rows that stops ('none') where the machine could throw -/
abbrev XV : Type := Int32 ⊕ (Int64 ⊕ Option XQ)
abbrev XO : Type := (Nat → Int32) × (Nat → Int64) × (Nat → Nat → Int32) × (Nat → Nat → Int64)
abbrev XM : Type := Nat → Nat → XO
abbrev XR : Type := Option (Option XV × XM)
abbrev XF : Type := List XV → XM → XR
abbrev XL : Type := List (Option XV)
abbrev XE : Type := Nat × Instr × Nat × Nat × Int32 × Int64 × List (Int32 × Nat)
/-- callees: pool index, kind of the answer (0 none, 1 int, 2 long), how many arguments, the receiver's class (99 none), the function -/
abbrev XN : Type := List (Nat × Nat × Nat × Nat × XF)
abbrev xi (x : Int32) : XV := .inl x
abbrev xl (x : Int64) : XV := .inr (.inl x)
abbrev xr (t i k : Nat) : XV := .inr (.inr (some (t, i, k)))
abbrev xn : XV := .inr (.inr none)
def rI (μ : XM) (t i j : Nat) : Int32 := (μ t i).1 j
def rL (μ : XM) (t i j : Nat) : Int64 := (μ t i).2.1 j
def aI (μ : XM) (t i j : Nat) : Nat → Int32 := (μ t i).2.2.1 j
def aL (μ : XM) (t i j : Nat) : Nat → Int64 := (μ t i).2.2.2 j
def xset (μ : XM) (t i : Nat) (o : XO) : XM := fun t' i' => if t' = t ∧ i' = i then o else μ t' i'
def sI (μ : XM) (t i j : Nat) (x : Int32) : XM := xset μ t i (va_up (μ t i).1 j x, (μ t i).2)
def sL (μ : XM) (t i j : Nat) (x : Int64) : XM := xset μ t i ((μ t i).1, va_up (μ t i).2.1 j x, (μ t i).2.2)
/-- a whole row of ints is written anew -/
def wI (μ : XM) (t i j : Nat) (f : Nat → Int32) : XM := xset μ t i ((μ t i).1, (μ t i).2.1, va_up (μ t i).2.2.1 j f, (μ t i).2.2.2)
def wL (μ : XM) (t i j : Nat) (f : Nat → Int64) : XM := xset μ t i ((μ t i).1, (μ t i).2.1, (μ t i).2.2.1, va_up (μ t i).2.2.2 j f)
/-- one cell of a row -/
def pI (μ : XM) (t i j k : Nat) (x : Int32) : XM := wI μ t i j (upd (aI μ t i j) k x)
def pL (μ : XM) (t i j k : Nat) (x : Int64) : XM := wL μ t i j (vp_updL (aL μ t i j) k x)
def xin (x : Int32) (n : Nat) : Bool := !(decide (x < 0)) && decide (x.toNatClampNeg < n)
def xbl (x : Int32) : Bool := decide (x = 0) || decide (x = 1)
/-- the results: nothing, an int, a boolean, a char, a long, a throw -/
def xrv (μ : XM) : XR := some (none, μ)
def xri (x : Int32) (μ : XM) : XR := some (some (xi x), μ)
def xrb (x : Int32) (μ : XM) : XR := bif xbl x then some (some (xi x), μ) else none
def xrc (x : Int32) (μ : XM) : XR := bif decide (vp_nar .char x = x) then some (some (xi x), μ) else none
def xrl (x : Int64) (μ : XM) : XR := some (some (xl x), μ)
def xrt (μ : XM) : XR := some (some (xr 99 0 0), μ)
/-- behind a call: its answer, then what goes on -/
def bV (r : XR) (k : XM → XR) : XR := match r with | some (none, μ) => k μ | _ => none
def bI (r : XR) (k : Int32 → XM → XR) : XR := match r with | some (some (.inl x), μ) => k x μ | _ => none
def bL (r : XR) (k : Int64 → XM → XR) : XR := match r with | some (some (.inr (.inl x)), μ) => k x μ | _ => none
noncomputable def xseek (a : Nat) (l : List XE) : List XE := List.rec [] (fun e l ih => bif Nat.beq e.1 a then e :: l else ih) l
noncomputable def xfind (a : Nat) (l : XN) : Option (Nat × Nat × Nat × XF) := List.rec none (fun e _ ih => bif Nat.beq e.1 a then some e.2 else ih) l
def xmask : Nat → XL → XL
  | _, [] => []
  | m, v :: l => (bif Nat.beq (m % 2) 1 then v else none) :: xmask (m / 2) l
def xpop : Nat → List XV → List XV → Option (List XV × List XV)
  | 0, acc, st => some (acc, st)
  | n + 1, acc, v :: st => xpop n (v :: acc) st
  | _ + 1, _, [] => none
def xcat (v : XV) : Nat := match v with | .inr (.inl _) => 2 | _ => 1
def xsum (st : List XV) : Nat := (st.map xcat).sum
def xlong (v : Option (Option XV)) : Bool := match v with | some (some (.inr (.inl _))) => true | _ => false
def xdel (i : Nat) (L : XL) : XL := bif xlong L[i - 1]? then L.set (i - 1) none else L
def xsw (K : Nat → XR) (x : Int32) (d : Nat) : List (Int32 × Nat) → XR
  | [] => K d
  | (v, t) :: l => if x = v then K t else xsw K x d l
def xcpok (sp dp n : Int32) (n0 n1 : Nat) : Bool := !(decide (sp < 0)) && !(decide (dp < 0)) && !(decide (n < 0)) && decide (sp.toNatClampNeg + n.toNatClampNeg ≤ n0) && decide (dp.toNatClampNeg + n.toNatClampNeg ≤ n1)
abbrev XK : Type := List XE → XL → List XV → XM → XR
-- the rows by their shapes
def xo1 (f : Int32 → XV) (k : List XV → XR) (st : List XV) : XR := match st with | .inl x :: st => k (f x :: st) | _ => none
def xo1l (f : Int64 → XV) (k : List XV → XR) (st : List XV) : XR := match st with | .inr (.inl x) :: st => k (f x :: st) | _ => none
def xo2 (f : Int32 → Int32 → Int32) (k : List XV → XR) (st : List XV) : XR := match st with | .inl y :: .inl x :: st => k (xi (f x y) :: st) | _ => none
def xo2n (f : Int32 → Int32 → Int32) (k : List XV → XR) (st : List XV) : XR := match st with | .inl y :: .inl x :: st => if y = 0 then none else k (xi (f x y) :: st) | _ => none
def xo2l (f : Int64 → Int64 → XV) (k : List XV → XR) (st : List XV) : XR := match st with | .inr (.inl y) :: .inr (.inl x) :: st => k (f x y :: st) | _ => none
def xo2ln (f : Int64 → Int64 → Int64) (k : List XV → XR) (st : List XV) : XR := match st with | .inr (.inl y) :: .inr (.inl x) :: st => if y = 0 then none else k (xl (f x y) :: st) | _ => none
def xo2s (f : Int64 → Int32 → Int64) (k : List XV → XR) (st : List XV) : XR := match st with | .inl y :: .inr (.inl x) :: st => k (xl (f x y) :: st) | _ => none
def xldI (L : XL) (a : Nat) (k : XV → XR) : XR := match L[a]? with | some (some (.inl x)) => k (xi x) | _ => none
def xldL (L : XL) (a : Nat) (k : XV → XR) : XR := match L[a]? with | some (some (.inr (.inl x))) => k (xl x) | _ => none
def xldR (L : XL) (a : Nat) (k : XV → XR) : XR := match L[a]? with | some (some (.inr (.inr x))) => k (.inr (.inr x)) | _ => none
def xstI (L : XL) (a : Nat) (k : XL → List XV → XR) (st : List XV) : XR := match st, L[a]? with | .inl x :: st, some _ => k ((xdel a L).set a (some (xi x))) st | _, _ => none
def xstR (L : XL) (a : Nat) (k : XL → List XV → XR) (st : List XV) : XR := match st, L[a]? with | .inr (.inr x) :: st, some _ => k ((xdel a L).set a (some (.inr (.inr x)))) st | _, _ => none
def xstL (L : XL) (a : Nat) (k : XL → List XV → XR) (st : List XV) : XR := match st, L[a + 1]? with | .inr (.inl x) :: st, some _ => k (((xdel a L).set (a + 1) none).set a (some (xl x))) st | _, _ => none
def xinc (L : XL) (a : Nat) (c : Int32) (k : XL → XR) : XR := match L[a]? with | some (some (.inl x)) => k ((xdel a L).set a (some (xi (x + c)))) | _ => none
def xdup (k : List XV → XR) (st : List XV) : XR := match st with | .inl x :: st => k (xi x :: xi x :: st) | .inr (.inr x) :: st => k (.inr (.inr x) :: .inr (.inr x) :: st) | _ => none
def xdup2 (k : List XV → XR) (st : List XV) : XR := match st with | .inl y :: .inr (.inr x) :: st => k (xi y :: .inr (.inr x) :: xi y :: .inr (.inr x) :: st) | _ => none
def xpp (k : List XV → XR) (st : List XV) : XR := match st with | .inl _ :: st => k st | .inr (.inr _) :: st => k st | _ => none
def xgf (μ : XM) (a b : Nat) (k : List XV → XR) (st : List XV) : XR := match st with
  | .inr (.inr (some (t, i, 0))) :: st => bif Nat.beq t a then (match (xlay a)[b]? with
    | some (.inl 1) => k (xl (rL μ a i b) :: st)
    | some (.inl _) => k (xi (rI μ a i b) :: st)
    | some (.inr f) => k (.inr (.inr (some (f i))) :: st)
    | none => none) else none
  | _ => none
def xpf (μ : XM) (a b : Nat) (k : List XV → XM → XR) (st : List XV) : XR := match st with
  | v :: .inr (.inr (some (t, i, 0))) :: st => bif Nat.beq t a then (match (xlay a)[b]?, v with
    | some (.inl 0), .inl x => k st (sI μ a i b x)
    | some (.inl 1), .inr (.inl x) => k st (sL μ a i b x)
    | some (.inl 3), .inl x => bif xbl x then k st (sI μ a i b x) else none
    | _, _ => none) else none
  | _ => none
def xal (μ : XM) (k : List XV → XR) (st : List XV) : XR := match st with
  | .inr (.inr (some (t, i, j + 1))) :: st => (match xarr t j with
    | (8, _) => k (xi (rI μ t i j) :: st)
    | (9, _) => none
    | (_, n) => k (xi (nI n) :: st))
  | _ => none
/-- an element of an int, char, boolean row (by its kind), of the script too -/
def xga (μ : XM) (kind : Nat) (k : List XV → XR) (st : List XV) : XR := match st with
  | .inl x :: .inr (.inr (some (t, i, j + 1))) :: st => (match xarr t j with
    | (8, _) => bif xin x (rI μ t i j).toNatClampNeg && Nat.beq kind 0 then k (xi (aI μ t i j x.toNatClampNeg) :: st) else none
    | (kd, n) => bif Nat.beq kd kind then (bif xin x n then k (xi (aI μ t i j x.toNatClampNeg) :: st) else none) else none)
  | _ => none
def xgl (μ : XM) (k : List XV → XR) (st : List XV) : XR := match st with
  | .inl x :: .inr (.inr (some (t, i, j + 1))) :: st => (match xarr t j with
    | (kd, n) => bif Nat.beq kd 1 then (bif xin x n then k (xl (aL μ t i j x.toNatClampNeg) :: st) else none) else none)
  | _ => none
def xgr (k : List XV → XR) (st : List XV) : XR := match st with
  | .inl x :: .inr (.inr (some (t, _, j + 1))) :: st => (match xarr t j with
    | (kd, n) => bif Nat.beq kd 4 || Nat.beq kd 5 then (bif xin x n then k (.inr (.inr (some (xrow kd x.toNatClampNeg))) :: st) else none) else none)
  | _ => none
def xpa (μ : XM) (kind : Nat) (f : Int32 → Int32) (ok : Int32 → Bool) (k : List XV → XM → XR) (st : List XV) : XR := match st with
  | .inl v :: .inl x :: .inr (.inr (some (t, i, j + 1))) :: st => (match xarr t j with
    | (kd, n) => bif Nat.beq kd kind then (bif xin x n && ok v then k st (pI μ t i j x.toNatClampNeg (f v)) else none) else none)
  | _ => none
def xpl (μ : XM) (k : List XV → XM → XR) (st : List XV) : XR := match st with
  | .inr (.inl v) :: .inl x :: .inr (.inr (some (t, i, j + 1))) :: st => (match xarr t j with
    | (kd, n) => bif Nat.beq kd 1 then (bif xin x n then k st (pL μ t i j x.toNatClampNeg v) else none) else none)
  | _ => none
def xcp (μ : XM) (k : List XV → XM → XR) (st : List XV) : XR := match st with
  | .inl n :: .inl dp :: .inr (.inr (some (t1, i1, j1 + 1))) :: .inl sp :: .inr (.inr (some (t0, i0, j0 + 1))) :: st => (match xarr t0 j0, xarr t1 j1 with
    | (0, n0), (0, n1) => bif xcpok sp dp n n0 n1 then k st (wI μ t1 i1 j1 (va_cpy (aI μ t0 i0 j0) (aI μ t1 i1 j1) sp.toNatClampNeg dp.toNatClampNeg n.toNatClampNeg)) else none
    | (1, n0), (1, n1) => bif xcpok sp dp n n0 n1 then k st (wL μ t1 i1 j1 (va_cpy (aL μ t0 i0 j0) (aL μ t1 i1 j1) sp.toNatClampNeg dp.toNatClampNeg n.toNatClampNeg)) else none
    | _, _ => none)
  | _ => none
noncomputable def xca (env : XN) (idx a tg : Nat) (μ : XM) (as rest : List XV) (k : List XV → XM → XR) : XR := bif Nat.ble (xsum rest) 8 then (match xfind idx env with
    | some (rk, na, tg', F) => bif Nat.beq na a && Nat.beq tg' tg then (match rk with
      | 0 => bV (F as μ) (fun μ => k rest μ)
      | 1 => bI (F as μ) (fun x μ => k (xi x :: rest) μ)
      | 2 => bL (F as μ) (fun x μ => k (xl x :: rest) μ)
      | _ => none) else none
    | none => none) else none
noncomputable def xcv (env : XN) (idx a b : Nat) (μ : XM) (k : List XV → XM → XR) (st : List XV) : XR := match xpop a [] st with
  | some (.inr (.inr (some (t, i, 0))) :: as, rest) => bif Nat.beq t b then xca env idx a b μ (xr t i 0 :: as) rest k else none
  | _ => none
noncomputable def xcs (env : XN) (idx a : Nat) (μ : XM) (k : List XV → XM → XR) (st : List XV) : XR := match xpop a [] st with
  | some (as, rest) => xca env idx a 99 μ as rest k
  | _ => none
def xmn (k : List XV → XR) (st : List XV) : XR := match st with | .inl y :: .inl x :: st => bif Nat.ble (xsum st) 8 then k (xi (if y < x then y else x) :: st) else none | _ => none
def xmx (k : List XV → XR) (st : List XV) : XR := match st with | .inl y :: .inl x :: st => bif Nat.ble (xsum st) 8 then k (xi (if x < y then y else x) :: st) else none | _ => none
def xab (k : List XV → XR) (st : List XV) : XR := match st with | .inl x :: st => bif Nat.ble (xsum st) 8 then k (xi (if 0 ≤ x then x else 0 - x) :: st) else none | _ => none
def xif (cd : Jvm.ClassFile.Cond) (kt kf : List XV → XR) (st : List XV) : XR := match st with
  | .inl x :: st => (match cd with
    | .eq => if x = 0 then kt st else kf st
    | .ne => if x = 0 then kf st else kt st
    | .lt => if x < 0 then kt st else kf st
    | .ge => if x < 0 then kf st else kt st
    | .gt => if 0 < x then kt st else kf st
    | .le => if 0 < x then kf st else kt st)
  | _ => none
def xic (cd : Jvm.ClassFile.Cond) (kt kf : List XV → XR) (st : List XV) : XR := match st with
  | .inl y :: .inl x :: st => (match cd with
    | .eq => if x = y then kt st else kf st
    | .ne => if x = y then kf st else kt st
    | .lt => if x < y then kt st else kf st
    | .ge => if x < y then kf st else kt st
    | .gt => if y < x then kt st else kf st
    | .le => if y < x then kf st else kt st)
  | _ => none
def xnl (kt kf : List XV → XR) (st : List XV) : XR := match st with
  | .inr (.inr none) :: st => kt st
  | .inr (.inr (some _)) :: st => kf st
  | _ => none
def xret (rt : Nat) (μ : XM) (st : List XV) : XR := match rt, st with
  | 1, [.inl x] => xri x μ
  | 2, [.inl x] => xrb x μ
  | 3, [.inl x] => xrc x μ
  | _, _ => none
noncomputable def xstep (A : Nat → XL → List XV → XM → XR) (tab : List XE) (env : XN) (rt : Nat) (rec : XK) (suf : List XE) (L : XL) (st : List XV) (μ : XM) : XR :=
  match suf with
  | [] => none
  | (pc, ins, a, b, c, d, sw) :: nx =>
    match ins with
    | .nop => A pc (xmask a L) st μ
    | .iconst _ => rec nx L (xi c :: st) μ
    | .bipush _ => rec nx L (xi c :: st) μ
    | .sipush _ => rec nx L (xi c :: st) μ
    | .ldc _ => (match b with | 0 => rec nx L (xi c :: st) μ | _ + 1 => rec nx L (xr 15 a 0 :: st) μ)
    | .ldc_w _ => rec nx L (xi c :: st) μ
    | .lconst _ => rec nx L (xl d :: st) μ
    | .ldc2_w _ => rec nx L (xl d :: st) μ
    | .aconst_null => rec nx L (xn :: st) μ
    | .iload_n _ => xldI L a (fun v => rec nx L (v :: st) μ)
    | .iload _ => xldI L a (fun v => rec nx L (v :: st) μ)
    | .lload_n _ => xldL L a (fun v => rec nx L (v :: st) μ)
    | .lload _ => xldL L a (fun v => rec nx L (v :: st) μ)
    | .aload_n _ => xldR L a (fun v => rec nx L (v :: st) μ)
    | .aload _ => xldR L a (fun v => rec nx L (v :: st) μ)
    | .istore_n _ => xstI L a (fun L st => rec nx L st μ) st
    | .istore _ => xstI L a (fun L st => rec nx L st μ) st
    | .lstore_n _ => xstL L a (fun L st => rec nx L st μ) st
    | .lstore _ => xstL L a (fun L st => rec nx L st μ) st
    | .astore_n _ => xstR L a (fun L st => rec nx L st μ) st
    | .astore _ => xstR L a (fun L st => rec nx L st μ) st
    | .iinc _ _ => xinc L a c (fun L => rec nx L st μ)
    | .iadd => xo2 (fun x y => x + y) (fun st => rec nx L st μ) st
    | .isub => xo2 (fun x y => x - y) (fun st => rec nx L st μ) st
    | .imul => xo2 (fun x y => x * y) (fun st => rec nx L st μ) st
    | .iand => xo2 (fun x y => x &&& y) (fun st => rec nx L st μ) st
    | .ior => xo2 (fun x y => x ||| y) (fun st => rec nx L st μ) st
    | .ixor => xo2 (fun x y => x ^^^ y) (fun st => rec nx L st μ) st
    | .ishl => xo2 (fun x y => x <<< (y &&& 31)) (fun st => rec nx L st μ) st
    | .ishr => xo2 (fun x y => x >>> (y &&& 31)) (fun st => rec nx L st μ) st
    | .iushr => xo2 (fun x y => (x.toUInt32 >>> (y.toUInt32 &&& Int32.toUInt32 31)).toInt32) (fun st => rec nx L st μ) st
    | .idiv => xo2n (fun x y => x / y) (fun st => rec nx L st μ) st
    | .irem => xo2n (fun x y => x - x / y * y) (fun st => rec nx L st μ) st
    | .ineg => xo1 (fun x => xi (-x)) (fun st => rec nx L st μ) st
    | .i2l => xo1 (fun x => xl x.toInt64) (fun st => rec nx L st μ) st
    | .i2c => xo1 (fun x => xi (x.toUInt32 % 65536).toInt32) (fun st => rec nx L st μ) st
    | .l2i => xo1l (fun x => xi x.toInt32) (fun st => rec nx L st μ) st
    | .ladd => xo2l (fun x y => xl (x + y)) (fun st => rec nx L st μ) st
    | .lsub => xo2l (fun x y => xl (x - y)) (fun st => rec nx L st μ) st
    | .lmul => xo2l (fun x y => xl (x * y)) (fun st => rec nx L st μ) st
    | .land => xo2l (fun x y => xl (x &&& y)) (fun st => rec nx L st μ) st
    | .lor => xo2l (fun x y => xl (x ||| y)) (fun st => rec nx L st μ) st
    | .lcmp => xo2l (fun x y => xi (lg_cmp x y)) (fun st => rec nx L st μ) st
    | .ldiv => xo2ln (fun x y => x / y) (fun st => rec nx L st μ) st
    | .lrem => xo2ln (fun x y => x - x / y * y) (fun st => rec nx L st μ) st
    | .lshl => xo2s (fun x y => x <<< (y.toInt64 &&& 63)) (fun st => rec nx L st μ) st
    | .lshr => xo2s (fun x y => x >>> (y.toInt64 &&& 63)) (fun st => rec nx L st μ) st
    | .lushr => xo2s (fun x y => (x.toUInt64 >>> (y.toInt64.toUInt64 &&& Int64.toUInt64 63)).toInt64) (fun st => rec nx L st μ) st
    | .dup => xdup (fun st => rec nx L st μ) st
    | .dup2 => xdup2 (fun st => rec nx L st μ) st
    | .pop => xpp (fun st => rec nx L st μ) st
    | .getfield _ => xgf μ a b (fun st => rec nx L st μ) st
    | .putfield _ => xpf μ a b (fun st μ => rec nx L st μ) st
    | .arraylength => xal μ (fun st => rec nx L st μ) st
    | .iaload => xga μ 0 (fun st => rec nx L st μ) st
    | .caload => xga μ 2 (fun st => rec nx L st μ) st
    | .baload => xga μ 3 (fun st => rec nx L st μ) st
    | .laload => xgl μ (fun st => rec nx L st μ) st
    | .aaload => xgr (fun st => rec nx L st μ) st
    | .iastore => xpa μ 0 (fun v => v) (fun _ => true) (fun st μ => rec nx L st μ) st
    | .castore => xpa μ 2 (fun v => vp_nar .char v) (fun _ => true) (fun st μ => rec nx L st μ) st
    | .bastore => xpa μ 3 (fun v => v) xbl (fun st μ => rec nx L st μ) st
    | .lastore => xpl μ (fun st μ => rec nx L st μ) st
    | .invokevirtual idx => xcv env idx a b μ (fun st μ => rec nx L st μ) st
    | .invokestatic idx => (match b with
      | 0 => xcs env idx a μ (fun st μ => rec nx L st μ) st
      | 1 => xmx (fun st => rec nx L st μ) st
      | 2 => xmn (fun st => rec nx L st μ) st
      | 3 => xab (fun st => rec nx L st μ) st
      | 4 => xcp μ (fun st μ => bif Nat.ble (xsum st) 8 then rec nx L st μ else none) st
      | _ => none)
    | .goto _ => rec (xseek a tab) L st μ
    | .ifCond cd _ => xif cd (fun st => rec (xseek a tab) L st μ) (fun st => rec nx L st μ) st
    | .if_icmp cd _ => xic cd (fun st => rec (xseek a tab) L st μ) (fun st => rec nx L st μ) st
    | .ifnull _ => xnl (fun st => rec (xseek a tab) L st μ) (fun st => rec nx L st μ) st
    | .ifnonnull _ => xnl (fun st => rec nx L st μ) (fun st => rec (xseek a tab) L st μ) st
    | .tableswitch _ _ _ _ => (match st with | .inl x :: st => xsw (fun t => rec (xseek t tab) L st μ) x a sw | _ => none)
    | .lookupswitch _ _ => (match st with | .inl x :: st => xsw (fun t => rec (xseek t tab) L st μ) x a sw | _ => none)
    | .ireturn => xret rt μ st
    | .lreturn => (match rt, st with | 4, [.inr (.inl x)] => xrl x μ | _, _ => none)
    | .return_ => (match rt, st with | 0, [] => xrv μ | _, _ => none)
    | .new _ => xrt μ
    | _ => none
/-- from a row on, at most so many rows -/
noncomputable def ex (A : Nat → XL → List XV → XM → XR) (tab : List XE) (env : XN) (rt : Nat) (k : Nat) : XK :=
  Nat.rec (fun _ _ _ _ => none) (fun _ ih => xstep A tab env rt ih) k
/-- behind a head's mark -/
def xhd (l : List XE) : List XE := match l with | (_, .nop, _) :: nx => nx | _ => []
/-- arriving at a head (a loop's, a join's), with fuel -/
noncomputable def arr (tab : List XE) (env : XN) (rt K : Nat) (n : Nat) : Nat → XL → List XV → XM → XR :=
  Nat.rec (fun _ _ _ _ => none) (fun _ ih h L st μ => ex ih tab env rt K (xhd (xseek h tab)) L st μ) n
/-- a whole body: from its first row, heads with fuel N -/
noncomputable def xrun (tab : List XE) (env : XN) (rt K N : Nat) (L : XL) (μ : XM) : XR := ex (arr tab env rt K N) tab env rt K tab L [] μ
end
section
/-! THE WORLD: what the heap holds for a memory -/
abbrev XP : Type := va_G × (Nat → ClassId) × (XQ → Nat) × (Nat → Prop) × (State → Heap → Prop) × Nat × (Nat → Int32)
abbrev xD (X : XP) : va_G := X.1
abbrev xcy (X : XP) : Nat → ClassId := X.2.1
abbrev xad (X : XP) : XQ → Nat := X.2.2.1
abbrev xA (X : XP) : Nat → Prop := X.2.2.2.1
abbrev xC (X : XP) : State → Heap → Prop := X.2.2.2.2.1
abbrev xLn (X : XP) : Nat := X.2.2.2.2.2.1
abbrev xxs (X : XP) : Nat → Int32 := X.2.2.2.2.2.2
def xc (X : XP) (v : XV) : Value := match v with
  | .inl x => .int x
  | .inr (.inl x) => .long x
  | .inr (.inr none) => .null
  | .inr (.inr (some q)) => .ref (xad X q)
def xslot (X : XP) (μ : XM) (t i j : Nat) (s : Nat ⊕ (Nat → XQ)) : Value := match s with
  | .inl 1 => .long (rL μ t i j)
  | .inl _ => .int (rI μ t i j)
  | .inr f => .ref (xad X (f i))
def xfs (X : XP) (μ : XM) (t i : Nat) : List Value := (xlay t).mapIdx (fun j s => xslot X μ t i j s)
def xae (X : XP) (μ : XM) (t i j : Nat) : va_E := match xarr t j with
  | (1, n) => .inl (xcy X 1, n, .inr (.inl (aL μ t i j)))
  | (4, n) => .inl (xcy X 4, n, .inr (.inr (.inr (.inr (fun k => some (xad X (xrow 4 k)))))))
  | (5, n) => .inl (xcy X 5, n, .inr (.inr (.inr (.inr (fun k => some (xad X (xrow 5 k)))))))
  | (kd, n) => .inl (xcy X kd, n, .inl (aI μ t i j))
def xe (X : XP) (μ : XM) (q : XQ) : va_E := match q with
  | (t, i, 0) => .inr (t, xfs X μ t i)
  | (t, i, j + 1) => xae X μ t i j
def xws (X : XP) (μ : XM) : va_W := xdom.map (fun q => (xad X q, xe X μ q))
def xtys (X : XP) : List (ClassId × FieldType) := [(xcy X 0, .int), (xcy X 1, .long), (xcy X 2, .char), (xcy X 3, .boolean), (xcy X 4, .object xR8), (xcy X 5, .object xR5)]
theorem xdom_nodup : xdom.Nodup := by decide +kernel
theorem xpos {q : XQ} (h : q ∈ xdom) : ∃ p : Nat, xdom[p]? = some q := List.mem_iff_getElem?.mp h
theorem xws_get (X : XP) (μ : XM) {p : Nat} {q : XQ} (h : xdom[p]? = some q) : (xws X μ)[p]? = some (xad X q, xe X μ q) := by
  simp [xws, List.getElem?_map, h]
theorem xws_set (X : XP) (μ μ' : XM) {p : Nat} {q : XQ} (hp : xdom[p]? = some q) {e : va_E} (he : xe X μ' q = e) (h1 : ∀ q' : XQ, q' ≠ q → xe X μ' q' = xe X μ q') : (xws X μ).set p (xad X q, e) = xws X μ' := by
  subst he
  apply List.ext_getElem?
  intro k
  by_cases hk : k = p
  · subst hk
    have hl : k < (xws X μ).length := (List.getElem?_eq_some_iff.mp (xws_get X μ hp)).1
    rw [List.getElem?_set_self hl, xws_get X μ' hp]
  · rw [List.getElem?_set_ne (Ne.symm hk)]
    cases hq : xdom[k]? with
    | none => simp [xws, List.getElem?_map, hq]
    | some q' =>
      rw [xws_get X μ hq, xws_get X μ' hq]
      have hne : q' ≠ q := by
        intro h
        subst h
        obtain ⟨a1, a2⟩ := List.getElem?_eq_some_iff.mp hq
        obtain ⟨b1, b2⟩ := List.getElem?_eq_some_iff.mp hp
        exact hk ((List.getElem_inj xdom_nodup).mp (a2.trans b2.symm))
      rw [h1 q' hne]
-- readers behind writers
theorem xset_s (μ : XM) (t i : Nat) (o : XO) : xset μ t i o t i = o := by simp [xset]
theorem xset_n (μ : XM) (t i : Nat) (o : XO) {t' i' : Nat} (h : ¬ (t' = t ∧ i' = i)) : xset μ t i o t' i' = μ t' i' := by simp [xset, h]
theorem rI_sI (μ : XM) (t i j : Nat) (x : Int32) (t' i' j' : Nat) : rI (sI μ t i j x) t' i' j' = if t' = t ∧ i' = i ∧ j' = j then x else rI μ t' i' j' := by
  by_cases h : t' = t ∧ i' = i
  · obtain ⟨rfl, rfl⟩ := h
    by_cases hj : j' = j <;> simp [rI, sI, xset, va_up, hj]
  · have h2 : ¬ (t' = t ∧ i' = i ∧ j' = j) := fun q => h ⟨q.1, q.2.1⟩
    simp [rI, sI, xset, h, h2]
theorem rL_sL (μ : XM) (t i j : Nat) (x : Int64) (t' i' j' : Nat) : rL (sL μ t i j x) t' i' j' = if t' = t ∧ i' = i ∧ j' = j then x else rL μ t' i' j' := by
  by_cases h : t' = t ∧ i' = i
  · obtain ⟨rfl, rfl⟩ := h
    by_cases hj : j' = j <;> simp [rL, sL, xset, va_up, hj]
  · have h2 : ¬ (t' = t ∧ i' = i ∧ j' = j) := fun q => h ⟨q.1, q.2.1⟩
    simp [rL, sL, xset, h, h2]
theorem aI_wI (μ : XM) (t i j : Nat) (f : Nat → Int32) (t' i' j' : Nat) : aI (wI μ t i j f) t' i' j' = if t' = t ∧ i' = i ∧ j' = j then f else aI μ t' i' j' := by
  by_cases h : t' = t ∧ i' = i
  · obtain ⟨rfl, rfl⟩ := h
    by_cases hj : j' = j <;> simp [aI, wI, xset, va_up, hj]
  · have h2 : ¬ (t' = t ∧ i' = i ∧ j' = j) := fun q => h ⟨q.1, q.2.1⟩
    simp [aI, wI, xset, h, h2]
theorem aL_wL (μ : XM) (t i j : Nat) (f : Nat → Int64) (t' i' j' : Nat) : aL (wL μ t i j f) t' i' j' = if t' = t ∧ i' = i ∧ j' = j then f else aL μ t' i' j' := by
  by_cases h : t' = t ∧ i' = i
  · obtain ⟨rfl, rfl⟩ := h
    by_cases hj : j' = j <;> simp [aL, wL, xset, va_up, hj]
  · have h2 : ¬ (t' = t ∧ i' = i ∧ j' = j) := fun q => h ⟨q.1, q.2.1⟩
    simp [aL, wL, xset, h, h2]
theorem rI_sL (μ : XM) (t i j : Nat) (x : Int64) (t' i' j' : Nat) : rI (sL μ t i j x) t' i' j' = rI μ t' i' j' := by
  by_cases h : t' = t ∧ i' = i <;> simp [rI, sL, xset, h]
theorem rI_wI (μ : XM) (t i j : Nat) (f : Nat → Int32) (t' i' j' : Nat) : rI (wI μ t i j f) t' i' j' = rI μ t' i' j' := by
  by_cases h : t' = t ∧ i' = i <;> simp [rI, wI, xset, h]
theorem rI_wL (μ : XM) (t i j : Nat) (f : Nat → Int64) (t' i' j' : Nat) : rI (wL μ t i j f) t' i' j' = rI μ t' i' j' := by
  by_cases h : t' = t ∧ i' = i <;> simp [rI, wL, xset, h]
theorem rL_sI (μ : XM) (t i j : Nat) (x : Int32) (t' i' j' : Nat) : rL (sI μ t i j x) t' i' j' = rL μ t' i' j' := by
  by_cases h : t' = t ∧ i' = i <;> simp [rL, sI, xset, h]
theorem rL_wI (μ : XM) (t i j : Nat) (f : Nat → Int32) (t' i' j' : Nat) : rL (wI μ t i j f) t' i' j' = rL μ t' i' j' := by
  by_cases h : t' = t ∧ i' = i <;> simp [rL, wI, xset, h]
theorem rL_wL (μ : XM) (t i j : Nat) (f : Nat → Int64) (t' i' j' : Nat) : rL (wL μ t i j f) t' i' j' = rL μ t' i' j' := by
  by_cases h : t' = t ∧ i' = i <;> simp [rL, wL, xset, h]
theorem aI_sI (μ : XM) (t i j : Nat) (x : Int32) (t' i' j' : Nat) : aI (sI μ t i j x) t' i' j' = aI μ t' i' j' := by
  by_cases h : t' = t ∧ i' = i <;> simp [aI, sI, xset, h]
theorem aI_sL (μ : XM) (t i j : Nat) (x : Int64) (t' i' j' : Nat) : aI (sL μ t i j x) t' i' j' = aI μ t' i' j' := by
  by_cases h : t' = t ∧ i' = i <;> simp [aI, sL, xset, h]
theorem aI_wL (μ : XM) (t i j : Nat) (f : Nat → Int64) (t' i' j' : Nat) : aI (wL μ t i j f) t' i' j' = aI μ t' i' j' := by
  by_cases h : t' = t ∧ i' = i <;> simp [aI, wL, xset, h]
theorem aL_sI (μ : XM) (t i j : Nat) (x : Int32) (t' i' j' : Nat) : aL (sI μ t i j x) t' i' j' = aL μ t' i' j' := by
  by_cases h : t' = t ∧ i' = i <;> simp [aL, sI, xset, h]
theorem aL_sL (μ : XM) (t i j : Nat) (x : Int64) (t' i' j' : Nat) : aL (sL μ t i j x) t' i' j' = aL μ t' i' j' := by
  by_cases h : t' = t ∧ i' = i <;> simp [aL, sL, xset, h]
theorem aL_wI (μ : XM) (t i j : Nat) (f : Nat → Int32) (t' i' j' : Nat) : aL (wI μ t i j f) t' i' j' = aL μ t' i' j' := by
  by_cases h : t' = t ∧ i' = i <;> simp [aL, wI, xset, h]
-- a cell behind a writer
theorem xfs_get (X : XP) (μ : XM) (t i j : Nat) : (xfs X μ t i)[j]? = ((xlay t)[j]?).map (fun s => xslot X μ t i j s) := by
  simp [xfs, List.getElem?_mapIdx]
theorem xfs_congr (X : XP) (μ μ' : XM) {t i : Nat} (h1 : ∀ j, rI μ' t i j = rI μ t i j) (h2 : ∀ j, rL μ' t i j = rL μ t i j) : xfs X μ' t i = xfs X μ t i := by
  apply List.ext_getElem?
  intro j
  rw [xfs_get, xfs_get]
  congr 1
  funext s
  simp only [xslot, h1, h2]
theorem xe_sI (X : XP) (μ : XM) (t i j : Nat) (x : Int32) (q : XQ) (h : q ≠ (t, i, 0)) : xe X (sI μ t i j x) q = xe X μ q := by
  obtain ⟨t', i', k⟩ := q
  cases k with
  | zero =>
    have h2 : ¬ (t' = t ∧ i' = i) := fun ⟨a, b⟩ => h (by rw [a, b])
    show Sum.inr (t', xfs X _ t' i') = Sum.inr (t', xfs X _ t' i')
    rw [xfs_congr X μ _ (fun j' => by rw [rI_sI, if_neg (fun z => h2 ⟨z.1, z.2.1⟩)]) (fun j' => by rw [rL_sI])]
  | succ k => simp only [xe, xae, aI_sI, aL_sI]
theorem xe_sL (X : XP) (μ : XM) (t i j : Nat) (x : Int64) (q : XQ) (h : q ≠ (t, i, 0)) : xe X (sL μ t i j x) q = xe X μ q := by
  obtain ⟨t', i', k⟩ := q
  cases k with
  | zero =>
    have h2 : ¬ (t' = t ∧ i' = i) := fun ⟨a, b⟩ => h (by rw [a, b])
    show Sum.inr (t', xfs X _ t' i') = Sum.inr (t', xfs X _ t' i')
    rw [xfs_congr X μ _ (fun j' => by rw [rI_sL]) (fun j' => by rw [rL_sL, if_neg (fun z => h2 ⟨z.1, z.2.1⟩)])]
  | succ k => simp only [xe, xae, aI_sL, aL_sL]
theorem xe_wI (X : XP) (μ : XM) (t i j : Nat) (f : Nat → Int32) (q : XQ) (h : q ≠ (t, i, j + 1)) : xe X (wI μ t i j f) q = xe X μ q := by
  obtain ⟨t', i', k⟩ := q
  cases k with
  | zero =>
    show Sum.inr (t', xfs X _ t' i') = Sum.inr (t', xfs X _ t' i')
    rw [xfs_congr X μ _ (fun j' => by rw [rI_wI]) (fun j' => by rw [rL_wI])]
  | succ k =>
    have h2 : ¬ (t' = t ∧ i' = i ∧ k = j) := fun ⟨a, b, c⟩ => h (by rw [a, b, c])
    simp only [xe, xae, aI_wI, aL_wI, if_neg h2]
theorem xe_wL (X : XP) (μ : XM) (t i j : Nat) (f : Nat → Int64) (q : XQ) (h : q ≠ (t, i, j + 1)) : xe X (wL μ t i j f) q = xe X μ q := by
  obtain ⟨t', i', k⟩ := q
  cases k with
  | zero =>
    show Sum.inr (t', xfs X _ t' i') = Sum.inr (t', xfs X _ t' i')
    rw [xfs_congr X μ _ (fun j' => by rw [rI_wL]) (fun j' => by rw [rL_wL])]
  | succ k =>
    have h2 : ¬ (t' = t ∧ i' = i ∧ k = j) := fun ⟨a, b, c⟩ => h (by rw [a, b, c])
    simp only [xe, xae, aI_wL, aL_wL, if_neg h2]
theorem xfs_sI (X : XP) (μ : XM) (t i j : Nat) (x : Int32) {k : Nat} (hk : (xlay t)[j]? = some (.inl k)) (h1 : k ≠ 1) : xfs X (sI μ t i j x) t i = (xfs X μ t i).set j (.int x) := by
  apply List.ext_getElem?
  intro j'
  by_cases hj : j' = j
  · subst hj
    have hl : j' < (xfs X μ t i).length := by
      have := (List.getElem?_eq_some_iff.mp hk).1
      simpa [xfs] using this
    rw [List.getElem?_set_self hl, xfs_get, hk]
    simp only [Option.map_some, xslot]
    rcases k with _ | _ | k
    · simp [rI_sI]
    · exact absurd rfl h1
    · simp [rI_sI]
  · rw [List.getElem?_set_ne (Ne.symm hj), xfs_get, xfs_get]
    congr 1
    funext s
    simp [xslot, rI_sI, rL_sI, hj]
theorem xfs_sL (X : XP) (μ : XM) (t i j : Nat) (x : Int64) (hk : (xlay t)[j]? = some (.inl 1)) : xfs X (sL μ t i j x) t i = (xfs X μ t i).set j (.long x) := by
  apply List.ext_getElem?
  intro j'
  by_cases hj : j' = j
  · subst hj
    have hl : j' < (xfs X μ t i).length := by
      have := (List.getElem?_eq_some_iff.mp hk).1
      simpa [xfs] using this
    rw [List.getElem?_set_self hl, xfs_get, hk]
    simp [xslot, rL_sL]
  · rw [List.getElem?_set_ne (Ne.symm hj), xfs_get, xfs_get]
    congr 1
    funext s
    simp [xslot, rI_sL, rL_sL, hj]
end
section
/-! SOUNDNESS: what the interpreter answers, the machine answers -/
/-- the String constants of the class: its own name, the pool index, the text -/
def xstrT : List (String × Nat × String) := [("SilenceBall$Tape", 67, "guest belt man holes water rises at chin breath weighs bears reach plain waver heavy shabby minute cast ask stop not and or gaps depth talk out "), ("SilenceBall$Tape", 59, "()<=+-*;")]
def xcn (t : Nat) : String := if t = 15 then "java/lang/String" else ((xcl[t]?).map (fun q => q.1)).getD ""
def xrecv (X : XP) (U : State) (H : Heap) (q : XQ) : Prop := ∃ cell : Cell, H[xad X q]? = some cell ∧ cell.vm.isStatics = false ∧ U.vm.findClass (xcn q.1) = some cell.cls
def xscr (X : XP) (μ : XM) : Prop := aI μ 13 0 0 = xxs X ∧ rI μ 13 0 0 = nI (xLn X)
def XOK (X : XP) : Prop :=
  (∀ μ, va_D (xA X) (xws X μ)) ∧
  (∀ (u U : State) (H : Heap), u.vm.Alike U.vm → xC X u H → xC X U H) ∧
  (∀ (U : State) (H H1 : Heap), H.size ≤ H1.size → (∀ q : Nat, q < H.size → ¬ xA X q → H1[q]? = H[q]?) → xC X U H → xC X U H1) ∧
  (∀ (U : State) (H : Heap), xC X U H → va_X (xad X (13, 0, 1)) (xLn X) (xxs X) U H ∧ ¬ xA X (xad X (13, 0, 1)) ∧ xad X (13, 0, 1) < H.size) ∧
  (∀ (U : State) (H : Heap) (k : Nat), k < 2 → xC X U H → xrecv X U H (15, k, 0)) ∧
  (∀ (U : State) (H : Heap) (k : Nat) (q : String × Nat × String), xC X U H → xstrT[k]? = some q → vk_R q.1 q.2.1 q.2.2 (xad X (15, k, 0)) U) ∧ xLn X < 2 ^ 31
/-- the world of a memory, at a state -/
def XW (X : XP) (μ : XM) (U : State) : Prop := va_P (xD X) xcl (xws X μ) U.heap ∧ va_K (xD X) xcl (xtys X) U ∧ xC X U U.heap ∧ xscr X μ
/-- a value leads to a cell of the world -/
def xok (v : XV) : Prop := match v with
  | .inr (.inr (some q)) => q ∈ xdom ∨ q = (13, 0, 1) ∨ (q.1 = 15 ∧ q.2.1 < 2 ∧ q.2.2 = 0)
  | _ => True
/-- a method's end -/
def xQ (X : XP) (r : Option XV) (μ : XM) : Array Value → State → Outcome → State → Prop := match r with
  | none => va_Qv (S := Unit) (fun _ => True) (fun _ t => XW X μ t) (xA X)
  | some (.inl x) => va_Qi (S := Unit) (fun y _ => y = x) (fun _ t => XW X μ t) (xA X)
  | some (.inr (.inl x)) => va_Ql (S := Unit) (fun y _ => y = x) (fun _ t => XW X μ t) (xA X)
  | some (.inr (.inr _)) => fun _ _ _ _ => True
/-- a method's contract: it does what the function F says -/
def Ctr (X : XP) (l : Launch) (y : MethodName) (bytes : ByteArray) (maxL : Nat) (ret : Option FieldType) (rm : Room) (mc ms : Nat) (F : XF) : Prop :=
  ∀ (av : List XV) (μ : XM) (r : Option XV) (μ' : XM), (∀ v ∈ av, xok v) → F av μ = some (r, μ') →
    Met l y (Cond.code y bytes maxL ret :: xG) rm (va_Pc (av.map (xc X)) (XW X μ)) (xQ X r μ') mc ms (xA X)
theorem xW_blind (X : XP) (hX : XOK X) (μ : XM) (av : List Value) : FrameBlind (va_Pc av (XW X μ)) := by
  intro a U g mk h
  obtain ⟨h0, h1, h2, h3, h4⟩ := h
  exact ⟨h0, h1, va_K.moved (u := U) (U := U.calling g mk a) (Vm.Alike.refl U.vm) h2, hX.2.1 U (U.calling g mk a) _ (Vm.Alike.refl U.vm) h3, h4⟩
/-- what stands all along a body -/
def XI (X : XP) (s : State) (μ : XM) (H : Heap) (locs : List Loc) : Prop := va_P (xD X) xcl (xws X μ) H ∧ va_S (xA X) s.heap H locs ∧ xscr X μ
def XCt (X : XP) (p : Program) (R : Room) (s : State) (m : MethodId) (args : Array Value) (c : Code) (cc : ByteArray) (own : String) (nL : Nat) : Prop :=
  p.tables.exec = Jvm.exec ∧ c.code = cc ∧ c.maxLocals = nL ∧ s.vm.findClass own = some m.cls ∧ (∀ w ∈ xG, w.before args s = true) ∧ va_K (xD X) xcl (xtys X) s ∧ xC X s s.heap ∧ XOK X ∧ 1 ≤ R.frames ∧ 100 ≤ R.locals
-- locals
def xlv (X : XP) : Nat → XL → List (Nat × Value)
  | _, [] => []
  | i, none :: l => xlv X (i + 1) l
  | i, some v :: l => (i, xc X v) :: xlv X (i + 1) l
theorem xlv_mem (X : XP) : ∀ (L : XL) (k i : Nat) (w : Value), (k + i, w) ∈ xlv X k L ↔ ∃ v, L[i]? = some (some v) ∧ w = xc X v := by
  intro L
  induction L with
  | nil => intro k i w; simp [xlv]
  | cons a L ih =>
    intro k i w
    cases i with
    | zero =>
      have hno : ∀ (l : XL) (n : Nat) (w : Value) (j : Nat), (j, w) ∈ xlv X n l → n ≤ j := by
        intro l
        induction l with
        | nil => intro n w j h; simp [xlv] at h
        | cons b l ih2 =>
          intro n w j h
          cases b with
          | none => have := ih2 (n + 1) w j h; omega
          | some v =>
            simp only [xlv, List.mem_cons, Prod.mk.injEq] at h
            rcases h with ⟨h, -⟩ | h
            · omega
            · have := ih2 (n + 1) w j h; omega
      cases a with
      | none =>
        simp only [xlv, List.getElem?_cons_zero, Option.some.injEq]
        constructor
        · intro h; have := hno _ _ _ _ h; omega
        · rintro ⟨v, h, -⟩; cases h
      | some v =>
        simp only [xlv, List.mem_cons, Prod.mk.injEq, List.getElem?_cons_zero, Option.some.injEq]
        constructor
        · rintro (⟨-, h⟩ | h)
          · exact ⟨v, rfl, h⟩
          · have := hno _ _ _ _ h; omega
        · rintro ⟨v', rfl, h⟩; exact Or.inl ⟨by omega, h⟩
    | succ i =>
      have e : k + (i + 1) = (k + 1) + i := by omega
      rw [e, List.getElem?_cons_succ]
      cases a with
      | none => exact ih (k + 1) i w
      | some v =>
        simp only [xlv, List.mem_cons, Prod.mk.injEq]
        rw [← ih (k + 1) i w]
        constructor
        · rintro (⟨h, -⟩ | h)
          · omega
          · exact h
        · exact Or.inr
theorem xlv_le (X : XP) {L : XL} {k j : Nat} {w : Value} (h : (j, w) ∈ xlv X k L) : k ≤ j := by
  induction L generalizing k with
  | nil => simp [xlv] at h
  | cons b l ih =>
    cases b with
    | none => have := ih h; omega
    | some v =>
      simp only [xlv, List.mem_cons, Prod.mk.injEq] at h
      rcases h with ⟨h, -⟩ | h
      · omega
      · have := ih h; omega
theorem xlv_iff (X : XP) (L : XL) (i : Nat) (w : Value) : (i, w) ∈ xlv X 0 L ↔ ∃ v, L[i]? = some (some v) ∧ w = xc X v := by
  have := xlv_mem X L 0 i w
  simpa using this
/-- the locals hold what the list says, and lead into the world -/
def xloc (X : XP) (ls : Array Slot) (nL : Nat) (L : XL) : Prop := lv_has ls nL (xlv X 0 L) ∧ L.length = nL ∧ ∀ v, some v ∈ L → xok v
theorem lv_mono {ls : Array Slot} {nL : Nat} {l l' : List (Nat × Value)} (h : lv_has ls nL l) (hs : ∀ q ∈ l', q ∈ l) : lv_has ls nL l' := ⟨h.1, h.2.1, fun q hq => h.2.2 q (hs q hq)⟩
theorem xloc_get {X : XP} {ls : Array Slot} {nL i : Nat} {L : XL} {v : XV} (h : xloc X ls nL L) (hi : L[i]? = some (some v)) : ls[i]? = some (.val (xc X v)) := h.1.2.2 (i, xc X v) ((xlv_iff X L i _).mpr ⟨v, hi, rfl⟩)
theorem xloc_ok {X : XP} {ls : Array Slot} {nL i : Nat} {L : XL} {v : XV} (h : xloc X ls nL L) (hi : L[i]? = some (some v)) : xok v := h.2.2 v (List.mem_of_getElem? hi)
theorem xc_cat (X : XP) (v : XV) : (xc X v).category = xcat v := by
  rcases v with x | x | _ | q <;> rfl
theorem xmask_len : ∀ (m : Nat) (L : XL), (xmask m L).length = L.length := by
  intro m L
  induction L generalizing m with
  | nil => rfl
  | cons a L ih => simp [xmask, ih]
theorem xmask_get : ∀ (m : Nat) (L : XL) (i : Nat) (v : XV), (xmask m L)[i]? = some (some v) → L[i]? = some (some v) := by
  intro m L
  induction L generalizing m with
  | nil => intro i v h; simp [xmask] at h
  | cons a L ih =>
    intro i v h
    cases i with
    | zero =>
      simp only [xmask, List.getElem?_cons_zero, Option.some.injEq] at h ⊢
      cases hb : Nat.beq (m % 2) 1 <;> rw [hb] at h
      · cases h
      · exact h
    | succ i => exact ih _ i v (by simpa [xmask] using h)
theorem xloc_mask {X : XP} {ls : Array Slot} {nL : Nat} {L : XL} (m : Nat) (h : xloc X ls nL L) : xloc X ls nL (xmask m L) := by
  refine ⟨lv_mono h.1 ?_, by rw [xmask_len]; exact h.2.1, ?_⟩
  · rintro ⟨i, w⟩ hq
    obtain ⟨v, h1, h2⟩ := (xlv_iff X _ i w).mp hq
    exact (xlv_iff X L i w).mpr ⟨v, xmask_get m L i v h1, h2⟩
  · intro v hv
    obtain ⟨i, hi⟩ := List.mem_iff_getElem?.mp hv
    exact xloc_ok h (xmask_get m L i v hi)
theorem xdel_len (a : Nat) (L : XL) : (xdel a L).length = L.length := by
  unfold xdel
  cases xlong L[a - 1]? <;> simp
theorem xdel_get {a : Nat} {L : XL} {i : Nat} {v : XV} (h : (xdel a L)[i]? = some (some v)) : L[i]? = some (some v) := by
  unfold xdel at h
  cases hb : xlong L[a - 1]?
  · rw [hb] at h; exact h
  · rw [hb] at h
    replace h : (L.set (a - 1) none)[i]? = some (some v) := h
    by_cases hi : i = a - 1
    · subst hi
      have : a - 1 < L.length := by
        have := (List.getElem?_eq_some_iff.mp h).1
        simpa using this
      rw [List.getElem?_set_self this] at h
      cases h
    · rwa [List.getElem?_set_ne (Ne.symm hi)] at h
/-- what is left of the locals when one is stored: none of the stored place, and no long just below it -/
theorem xst_keep {X : XP} {a : Nat} {L : XL} {i : Nat} {v : XV} (ha : i ≠ a) (h : (xdel a L)[i]? = some (some v)) : L[i]? = some (some v) ∧ ¬ (i + 1 = a ∧ xcat v = 2) := by
  refine ⟨xdel_get h, fun ⟨h1, h2⟩ => ?_⟩
  have e : a - 1 = i := by omega
  have hl : xlong L[a - 1]? = true := by
    rw [e, xdel_get h]
    rcases v with x | x | _ | q <;> simp_all [xlong, xcat]
  unfold xdel at h
  rw [hl] at h
  replace h : (L.set (a - 1) none)[i]? = some (some v) := h
  rw [e] at h
  have : i < L.length := by
    have := (List.getElem?_eq_some_iff.mp h).1
    simpa using this
  rw [List.getElem?_set_self this] at h
  cases h
theorem xloc_st1 {X : XP} {ls ls' : Array Slot} {nL a : Nat} {L : XL} {v : XV} (h : xloc X ls nL L) (ha : a < nL) (hv : xok v)
    (h' : lv_has ls' nL ((a, xc X v) :: (xlv X 0 L).filter (fun q => !(q.1 == a) && !(q.1 + 1 == a && q.2.category == 2)))) : xloc X ls' nL ((xdel a L).set a (some v)) := by
  have hlen : a < (xdel a L).length := by rw [xdel_len, h.2.1]; exact ha
  refine ⟨lv_mono h' ?_, by simp [xdel_len, h.2.1], ?_⟩
  · rintro ⟨i, w⟩ hq
    obtain ⟨v', h1, rfl⟩ := (xlv_iff X _ i w).mp hq
    by_cases hi : i = a
    · subst hi
      rw [List.getElem?_set_self hlen] at h1
      cases h1
      exact List.mem_cons_self
    · rw [List.getElem?_set_ne (Ne.symm hi)] at h1
      obtain ⟨k1, k2⟩ := xst_keep (X := X) hi h1
      refine List.mem_cons_of_mem _ (List.mem_filter.mpr ⟨(xlv_iff X L i _).mpr ⟨v', k1, rfl⟩, ?_⟩)
      simp only [xc_cat]
      simp [hi]
      omega
  · intro w hw
    obtain ⟨i, hi⟩ := List.mem_iff_getElem?.mp hw
    by_cases hia : i = a
    · subst hia
      rw [List.getElem?_set_self hlen] at hi
      cases hi
      exact hv
    · rw [List.getElem?_set_ne (Ne.symm hia)] at hi
      exact xloc_ok h (xdel_get hi)
theorem xloc_st2 {X : XP} {ls ls' : Array Slot} {nL a : Nat} {L : XL} {v : XV} (h : xloc X ls nL L) (ha : a + 1 < nL) (hv : xok v)
    (h' : lv_has ls' nL ((a, xc X v) :: (xlv X 0 L).filter (fun q => !(q.1 == a) && (!(q.1 == a + 1) && !(q.1 + 1 == a && q.2.category == 2))))) : xloc X ls' nL (((xdel a L).set (a + 1) none).set a (some v)) := by
  have hlen : a < ((xdel a L).set (a + 1) none).length := by simp only [List.length_set, xdel_len, h.2.1]; omega
  have key : ∀ (i : Nat) (v' : XV), i ≠ a → (((xdel a L).set (a + 1) none).set a (some v))[i]? = some (some v') → i ≠ a + 1 ∧ (xdel a L)[i]? = some (some v') := by
    intro i v' hi h1
    rw [List.getElem?_set_ne (Ne.symm hi)] at h1
    by_cases hi2 : i = a + 1
    · subst hi2
      rw [List.getElem?_set_self (by rw [xdel_len, h.2.1]; exact ha)] at h1
      cases h1
    · rw [List.getElem?_set_ne (Ne.symm hi2)] at h1
      exact ⟨hi2, h1⟩
  refine ⟨lv_mono h' ?_, by simp [xdel_len, h.2.1], ?_⟩
  · rintro ⟨i, w⟩ hq
    obtain ⟨v', h1, rfl⟩ := (xlv_iff X _ i w).mp hq
    by_cases hi : i = a
    · subst hi
      rw [List.getElem?_set_self hlen] at h1
      cases h1
      exact List.mem_cons_self
    · obtain ⟨hi2, h1⟩ := key i v' hi h1
      obtain ⟨k1, k2⟩ := xst_keep (X := X) hi h1
      refine List.mem_cons_of_mem _ (List.mem_filter.mpr ⟨(xlv_iff X L i _).mpr ⟨v', k1, rfl⟩, ?_⟩)
      simp only [xc_cat]
      simp [hi, hi2]
      omega
  · intro w hw
    obtain ⟨i, hi⟩ := List.mem_iff_getElem?.mp hw
    by_cases hia : i = a
    · subst hia
      rw [List.getElem?_set_self hlen] at hi
      cases hi
      exact hv
    · exact xloc_ok h (xdel_get (key i w hia hi).2)

-- classes
def xsty (k : Nat) : FieldType := if k = 1 then .long else if k = 3 then .boolean else .int
def xcf (a : Nat) (C : String) (T : u_T) (N : Nat) : Prop := (xlay a).length = N ∧ (∀ w ∈ u_ws C T N, w ∈ xG) ∧ (∃ ty0 : Nat → FieldType, ∀ k, k < N → parseFieldDescriptor (T k).2.2.1 = some (ty0 k)) ∧ (∀ x, x < N → ∀ y, y < N → x ≠ y → (T x).2.1 ≠ (T y).2.1) ∧ (∀ b, b < N → (match (xlay a)[b]? with | some (.inl k) => (T b).2.2.2 = false ∧ parseFieldDescriptor (T b).2.2.1 = some (xsty k) | _ => True))
theorem xcf0 : xcf 0 xR0 xT0 3 := ⟨rfl, xI0, ⟨xY0, xP0⟩, xN0, by
  intro b hb
  match b, hb with
  | 0, _ => first | exact trivial | exact ⟨rfl, by decide +kernel⟩
  | 1, _ => first | exact trivial | exact ⟨rfl, by decide +kernel⟩
  | 2, _ => first | exact trivial | exact ⟨rfl, by decide +kernel⟩
  | b + 3, hb => exact absurd hb (by omega)⟩
theorem xcf1 : xcf 1 xR1 xT1 5 := ⟨rfl, xI1, ⟨xY1, xP1⟩, xN1, by
  intro b hb
  match b, hb with
  | 0, _ => first | exact trivial | exact ⟨rfl, by decide +kernel⟩
  | 1, _ => first | exact trivial | exact ⟨rfl, by decide +kernel⟩
  | 2, _ => first | exact trivial | exact ⟨rfl, by decide +kernel⟩
  | 3, _ => first | exact trivial | exact ⟨rfl, by decide +kernel⟩
  | 4, _ => first | exact trivial | exact ⟨rfl, by decide +kernel⟩
  | b + 5, hb => exact absurd hb (by omega)⟩
theorem xcf2 : xcf 2 xR2 xT2 17 := ⟨rfl, xI2, ⟨xY2, xP2⟩, xN2, by
  intro b hb
  match b, hb with
  | 0, _ => first | exact trivial | exact ⟨rfl, by decide +kernel⟩
  | 1, _ => first | exact trivial | exact ⟨rfl, by decide +kernel⟩
  | 2, _ => first | exact trivial | exact ⟨rfl, by decide +kernel⟩
  | 3, _ => first | exact trivial | exact ⟨rfl, by decide +kernel⟩
  | 4, _ => first | exact trivial | exact ⟨rfl, by decide +kernel⟩
  | 5, _ => first | exact trivial | exact ⟨rfl, by decide +kernel⟩
  | 6, _ => first | exact trivial | exact ⟨rfl, by decide +kernel⟩
  | 7, _ => first | exact trivial | exact ⟨rfl, by decide +kernel⟩
  | 8, _ => first | exact trivial | exact ⟨rfl, by decide +kernel⟩
  | 9, _ => first | exact trivial | exact ⟨rfl, by decide +kernel⟩
  | 10, _ => first | exact trivial | exact ⟨rfl, by decide +kernel⟩
  | 11, _ => first | exact trivial | exact ⟨rfl, by decide +kernel⟩
  | 12, _ => first | exact trivial | exact ⟨rfl, by decide +kernel⟩
  | 13, _ => first | exact trivial | exact ⟨rfl, by decide +kernel⟩
  | 14, _ => first | exact trivial | exact ⟨rfl, by decide +kernel⟩
  | 15, _ => first | exact trivial | exact ⟨rfl, by decide +kernel⟩
  | 16, _ => first | exact trivial | exact ⟨rfl, by decide +kernel⟩
  | b + 17, hb => exact absurd hb (by omega)⟩
theorem xcf3 : xcf 3 xR3 xT3 1 := ⟨rfl, xI3, ⟨xY3, xP3⟩, xN3, by
  intro b hb
  match b, hb with
  | 0, _ => first | exact trivial | exact ⟨rfl, by decide +kernel⟩
  | b + 1, hb => exact absurd hb (by omega)⟩
theorem xcf4 : xcf 4 xR4 xT4 4 := ⟨rfl, xI4, ⟨xY4, xP4⟩, xN4, by
  intro b hb
  match b, hb with
  | 0, _ => first | exact trivial | exact ⟨rfl, by decide +kernel⟩
  | 1, _ => first | exact trivial | exact ⟨rfl, by decide +kernel⟩
  | 2, _ => first | exact trivial | exact ⟨rfl, by decide +kernel⟩
  | 3, _ => first | exact trivial | exact ⟨rfl, by decide +kernel⟩
  | b + 4, hb => exact absurd hb (by omega)⟩
theorem xcf5 : xcf 5 xR5 xT5 3 := ⟨rfl, xI5, ⟨xY5, xP5⟩, xN5, by
  intro b hb
  match b, hb with
  | 0, _ => first | exact trivial | exact ⟨rfl, by decide +kernel⟩
  | 1, _ => first | exact trivial | exact ⟨rfl, by decide +kernel⟩
  | 2, _ => first | exact trivial | exact ⟨rfl, by decide +kernel⟩
  | b + 3, hb => exact absurd hb (by omega)⟩
theorem xcf6 : xcf 6 xR6 xT6 7 := ⟨rfl, xI6, ⟨xY6, xP6⟩, xN6, by
  intro b hb
  match b, hb with
  | 0, _ => first | exact trivial | exact ⟨rfl, by decide +kernel⟩
  | 1, _ => first | exact trivial | exact ⟨rfl, by decide +kernel⟩
  | 2, _ => first | exact trivial | exact ⟨rfl, by decide +kernel⟩
  | 3, _ => first | exact trivial | exact ⟨rfl, by decide +kernel⟩
  | 4, _ => first | exact trivial | exact ⟨rfl, by decide +kernel⟩
  | 5, _ => first | exact trivial | exact ⟨rfl, by decide +kernel⟩
  | 6, _ => first | exact trivial | exact ⟨rfl, by decide +kernel⟩
  | b + 7, hb => exact absurd hb (by omega)⟩
theorem xcf7 : xcf 7 xR7 xT7 5 := ⟨rfl, xI7, ⟨xY7, xP7⟩, xN7, by
  intro b hb
  match b, hb with
  | 0, _ => first | exact trivial | exact ⟨rfl, by decide +kernel⟩
  | 1, _ => first | exact trivial | exact ⟨rfl, by decide +kernel⟩
  | 2, _ => first | exact trivial | exact ⟨rfl, by decide +kernel⟩
  | 3, _ => first | exact trivial | exact ⟨rfl, by decide +kernel⟩
  | 4, _ => first | exact trivial | exact ⟨rfl, by decide +kernel⟩
  | b + 5, hb => exact absurd hb (by omega)⟩
theorem xcf8 : xcf 8 xR8 xT8 9 := ⟨rfl, xI8, ⟨xY8, xP8⟩, xN8, by
  intro b hb
  match b, hb with
  | 0, _ => first | exact trivial | exact ⟨rfl, by decide +kernel⟩
  | 1, _ => first | exact trivial | exact ⟨rfl, by decide +kernel⟩
  | 2, _ => first | exact trivial | exact ⟨rfl, by decide +kernel⟩
  | 3, _ => first | exact trivial | exact ⟨rfl, by decide +kernel⟩
  | 4, _ => first | exact trivial | exact ⟨rfl, by decide +kernel⟩
  | 5, _ => first | exact trivial | exact ⟨rfl, by decide +kernel⟩
  | 6, _ => first | exact trivial | exact ⟨rfl, by decide +kernel⟩
  | 7, _ => first | exact trivial | exact ⟨rfl, by decide +kernel⟩
  | 8, _ => first | exact trivial | exact ⟨rfl, by decide +kernel⟩
  | b + 9, hb => exact absurd hb (by omega)⟩
theorem xcf9 : xcf 9 xR9 xT9 3 := ⟨rfl, xI9, ⟨xY9, xP9⟩, xN9, by
  intro b hb
  match b, hb with
  | 0, _ => first | exact trivial | exact ⟨rfl, by decide +kernel⟩
  | 1, _ => first | exact trivial | exact ⟨rfl, by decide +kernel⟩
  | 2, _ => first | exact trivial | exact ⟨rfl, by decide +kernel⟩
  | b + 3, hb => exact absurd hb (by omega)⟩
theorem xcf10 : xcf 10 xR10 xT10 8 := ⟨rfl, xI10, ⟨xY10, xP10⟩, xN10, by
  intro b hb
  match b, hb with
  | 0, _ => first | exact trivial | exact ⟨rfl, by decide +kernel⟩
  | 1, _ => first | exact trivial | exact ⟨rfl, by decide +kernel⟩
  | 2, _ => first | exact trivial | exact ⟨rfl, by decide +kernel⟩
  | 3, _ => first | exact trivial | exact ⟨rfl, by decide +kernel⟩
  | 4, _ => first | exact trivial | exact ⟨rfl, by decide +kernel⟩
  | 5, _ => first | exact trivial | exact ⟨rfl, by decide +kernel⟩
  | 6, _ => first | exact trivial | exact ⟨rfl, by decide +kernel⟩
  | 7, _ => first | exact trivial | exact ⟨rfl, by decide +kernel⟩
  | b + 8, hb => exact absurd hb (by omega)⟩
theorem xcf11 : xcf 11 xR11 xT11 12 := ⟨rfl, xI11, ⟨xY11, xP11⟩, xN11, by
  intro b hb
  match b, hb with
  | 0, _ => first | exact trivial | exact ⟨rfl, by decide +kernel⟩
  | 1, _ => first | exact trivial | exact ⟨rfl, by decide +kernel⟩
  | 2, _ => first | exact trivial | exact ⟨rfl, by decide +kernel⟩
  | 3, _ => first | exact trivial | exact ⟨rfl, by decide +kernel⟩
  | 4, _ => first | exact trivial | exact ⟨rfl, by decide +kernel⟩
  | 5, _ => first | exact trivial | exact ⟨rfl, by decide +kernel⟩
  | 6, _ => first | exact trivial | exact ⟨rfl, by decide +kernel⟩
  | 7, _ => first | exact trivial | exact ⟨rfl, by decide +kernel⟩
  | 8, _ => first | exact trivial | exact ⟨rfl, by decide +kernel⟩
  | 9, _ => first | exact trivial | exact ⟨rfl, by decide +kernel⟩
  | 10, _ => first | exact trivial | exact ⟨rfl, by decide +kernel⟩
  | 11, _ => first | exact trivial | exact ⟨rfl, by decide +kernel⟩
  | b + 12, hb => exact absurd hb (by omega)⟩
theorem xcf12 : xcf 12 xR12 xT12 34 := ⟨rfl, xI12, ⟨xY12, xP12⟩, xN12, by
  intro b hb
  match b, hb with
  | 0, _ => first | exact trivial | exact ⟨rfl, by decide +kernel⟩
  | 1, _ => first | exact trivial | exact ⟨rfl, by decide +kernel⟩
  | 2, _ => first | exact trivial | exact ⟨rfl, by decide +kernel⟩
  | 3, _ => first | exact trivial | exact ⟨rfl, by decide +kernel⟩
  | 4, _ => first | exact trivial | exact ⟨rfl, by decide +kernel⟩
  | 5, _ => first | exact trivial | exact ⟨rfl, by decide +kernel⟩
  | 6, _ => first | exact trivial | exact ⟨rfl, by decide +kernel⟩
  | 7, _ => first | exact trivial | exact ⟨rfl, by decide +kernel⟩
  | 8, _ => first | exact trivial | exact ⟨rfl, by decide +kernel⟩
  | 9, _ => first | exact trivial | exact ⟨rfl, by decide +kernel⟩
  | 10, _ => first | exact trivial | exact ⟨rfl, by decide +kernel⟩
  | 11, _ => first | exact trivial | exact ⟨rfl, by decide +kernel⟩
  | 12, _ => first | exact trivial | exact ⟨rfl, by decide +kernel⟩
  | 13, _ => first | exact trivial | exact ⟨rfl, by decide +kernel⟩
  | 14, _ => first | exact trivial | exact ⟨rfl, by decide +kernel⟩
  | 15, _ => first | exact trivial | exact ⟨rfl, by decide +kernel⟩
  | 16, _ => first | exact trivial | exact ⟨rfl, by decide +kernel⟩
  | 17, _ => first | exact trivial | exact ⟨rfl, by decide +kernel⟩
  | 18, _ => first | exact trivial | exact ⟨rfl, by decide +kernel⟩
  | 19, _ => first | exact trivial | exact ⟨rfl, by decide +kernel⟩
  | 20, _ => first | exact trivial | exact ⟨rfl, by decide +kernel⟩
  | 21, _ => first | exact trivial | exact ⟨rfl, by decide +kernel⟩
  | 22, _ => first | exact trivial | exact ⟨rfl, by decide +kernel⟩
  | 23, _ => first | exact trivial | exact ⟨rfl, by decide +kernel⟩
  | 24, _ => first | exact trivial | exact ⟨rfl, by decide +kernel⟩
  | 25, _ => first | exact trivial | exact ⟨rfl, by decide +kernel⟩
  | 26, _ => first | exact trivial | exact ⟨rfl, by decide +kernel⟩
  | 27, _ => first | exact trivial | exact ⟨rfl, by decide +kernel⟩
  | 28, _ => first | exact trivial | exact ⟨rfl, by decide +kernel⟩
  | 29, _ => first | exact trivial | exact ⟨rfl, by decide +kernel⟩
  | 30, _ => first | exact trivial | exact ⟨rfl, by decide +kernel⟩
  | 31, _ => first | exact trivial | exact ⟨rfl, by decide +kernel⟩
  | 32, _ => first | exact trivial | exact ⟨rfl, by decide +kernel⟩
  | 33, _ => first | exact trivial | exact ⟨rfl, by decide +kernel⟩
  | b + 34, hb => exact absurd hb (by omega)⟩
theorem xcfs {a : Nat} {C : String} {T : u_T} {N : Nat} (h : xcl[a]? = some (C, T, N)) : xcf a C T N := by
  match a, h with
  | 0, h => cases h; exact xcf0
  | 1, h => cases h; exact xcf1
  | 2, h => cases h; exact xcf2
  | 3, h => cases h; exact xcf3
  | 4, h => cases h; exact xcf4
  | 5, h => cases h; exact xcf5
  | 6, h => cases h; exact xcf6
  | 7, h => cases h; exact xcf7
  | 8, h => cases h; exact xcf8
  | 9, h => cases h; exact xcf9
  | 10, h => cases h; exact xcf10
  | 11, h => cases h; exact xcf11
  | 12, h => cases h; exact xcf12
  | a + 13, h => simp [xcl] at h
theorem xlay_lt {a b : Nat} {sl : Nat ⊕ (Nat → XQ)} (h : (xlay a)[b]? = some sl) : a < 13 := by
  by_cases ha : a < 13
  · exact ha
  · exfalso
    have : xlay a = [] := by
      unfold xlay
      rw [List.getD_eq_getElem?_getD, List.getElem?_eq_none (by simp; omega)]
      rfl
    rw [this] at h
    simp at h
theorem xcl_of {a : Nat} (h : a < 13) : ∃ C T N, xcl[a]? = some (C, T, N) := by
  have hl : a < xcl.length := h
  exact ⟨(xcl[a]).1, (xcl[a]).2.1, (xcl[a]).2.2, by rw [List.getElem?_eq_getElem hl]⟩
/-- a field's link: by the class's own name and the pool index: class and slot -/
def xfl (own : String) (q : Nat × Nat × Nat) : Prop := ∃ C T N, xcl[q.2.1]? = some (C, T, N) ∧ q.2.2 < N ∧ Cond.fieldLink own q.1 (T q.2.2).1 (T q.2.2).2.1 (T q.2.2).2.2.1 ∈ xG
-- the references lead into the world
theorem xlink_ok : xdom.all (fun q => match q with | (t, i, 0) => (xlay t).all (fun s => match s with | .inr f => decide (f i ∈ xdom) | _ => true) | (t, _, j + 1) => (match xarr t j with | (4, n) => (List.range n).all (fun k => decide (xrow 4 k ∈ xdom)) | (5, n) => (List.range n).all (fun k => decide (xrow 5 k ∈ xdom)) | _ => true)) = true := by decide +kernel
theorem xlink {t i b : Nat} {f : Nat → XQ} (hq : (t, i, 0) ∈ xdom) (hs : (xlay t)[b]? = some (.inr f)) : f i ∈ xdom := by
  have h := List.all_eq_true.mp xlink_ok _ hq
  have h2 := List.all_eq_true.mp h _ (List.mem_of_getElem? hs)
  exact of_decide_eq_true h2
theorem xlink4 {t i j n k kd : Nat} (hq : (t, i, j + 1) ∈ xdom) (hs : xarr t j = (kd, n)) (hkd : kd = 4 ∨ kd = 5) (hk : k < n) : xrow kd k ∈ xdom := by
  have h := List.all_eq_true.mp xlink_ok _ hq
  rcases hkd with rfl | rfl <;> (simp only [hs] at h; exact of_decide_eq_true (List.all_eq_true.mp h _ (List.mem_range.mpr hk)))
theorem xin_vp {x : Int32} {n : Nat} (h : xin x n = true) : vp_in x n := by
  simp only [xin, Bool.and_eq_true, Bool.not_eq_true', decide_eq_false_iff_not, decide_eq_true_eq] at h
  exact fun q => q.elim h.1 (fun z => by omega)
theorem xin_lt {x : Int32} {n : Nat} (h : xin x n = true) : x.toNatClampNeg < n := by
  simp only [xin, Bool.and_eq_true, Bool.not_eq_true', decide_eq_false_iff_not, decide_eq_true_eq] at h
  exact h.2
theorem xbl_or {x : Int32} (h : xbl x = true) : x = 0 ∨ x = 1 := by
  simpa [xbl] using h
end
section
/-! rows over the world -/
section
variable {p : Program} {l : Launch} {e : Env} {R : Room} {s : State} {m : MethodId} {args : Array Value} {below : List Frame} {meth : Method} {c : Code} {Z : State → Prop} {cc : ByteArray} {own : String} {X : XP} {nL : Nat} {μ : XM} {H : Heap} {locs : List Loc} {cells slots pc : Nat} {ls : Array Slot} {rest : List Value}
theorem xr_get (C : XCt X p R s m args c cc own nL) (hI : XI X s μ H locs) {a b i idx : Nat} (hf : xfl own (idx, a, b)) (hq : (a, i, 0) ∈ xdom) {sl : Nat ⊕ (Nat → XQ)} (hs : (xlay a)[b]? = some sl) (hdg : decode cc pc = .ok (.getfield idx, 3))
    (kk : W p l e R s m args below meth c H locs cells slots Z (F0 m (pc + 3) ls (xslot X μ a i b sl :: rest))) : W p l e R s m args below meth c H locs cells slots Z (F0 m pc ls (.ref (xad X (a, i, 0)) :: rest)) := by
  obtain ⟨hx, hb, hml, hown, hts, hK, hC, hX, -, -⟩ := C
  obtain ⟨hP, hS, -⟩ := hI
  obtain ⟨C, T, N, hcl, hbN, hw⟩ := hf
  obtain ⟨hlen, hin, -, -, -⟩ := xcfs hcl
  obtain ⟨q0, hq0⟩ := xpos hq
  have he := xws_get X μ hq0
  exact va_get (D := xD X) (cl := xcl) (ws := xws X μ) (tys := xtys X) hx hb hts hin hown hK hP q0 he hcl b hbN (hts _ hw) (fun _ h => h) (v := xslot X μ a i b sl) (by rw [xfs_get, hs]; rfl) hdg kk
theorem xr_putI (C : XCt X p R s m args c cc own nL) (hI : XI X s μ H locs) {a b i idx k : Nat} {x : Int32} (hf : xfl own (idx, a, b)) (hq : (a, i, 0) ∈ xdom) (hs : (xlay a)[b]? = some (.inl k)) (hk : k = 0 ∨ (k = 3 ∧ (x = 0 ∨ x = 1))) (hdg : decode cc pc = .ok (.putfield idx, 3))
    (kk : ∀ H1 locs1, XI X s (sI μ a i b x) H1 locs1 → W p l e R s m args below meth c H1 locs1 cells slots Z (F0 m (pc + 3) ls rest)) : W p l e R s m args below meth c H locs cells slots Z (F0 m pc ls (.int x :: .ref (xad X (a, i, 0)) :: rest)) := by
  obtain ⟨hx, hb, hml, hown, hts, hK, hC, hX, -, -⟩ := C
  obtain ⟨hP, hS, hscr⟩ := hI
  obtain ⟨C, T, N, hcl, hbN, hw⟩ := hf
  obtain ⟨hlen, hin, ⟨ty0, hty⟩, hnm, hsl⟩ := xcfs hcl
  have ⟨hfin, hpd⟩ : (T b).2.2.2 = false ∧ parseFieldDescriptor (T b).2.2.1 = some (xsty k) := by have h := hsl b hbN; rw [hs] at h; exact h
  obtain ⟨q0, hq0⟩ := xpos hq
  have he := xws_get X μ hq0
  have hk1 : k ≠ 1 := by omega
  have hlt : b < (xfs X μ a i).length := by simp [xfs, hlen, hbN]
  have hset : (xws X μ).set q0 (xad X (a, i, 0), .inr (a, (xfs X μ a i).set b (.int x))) = xws X (sI μ a i b x) := xws_set X μ (sI μ a i b x) hq0 (by show Sum.inr (a, xfs X (sI μ a i b x) a i) = _; rw [xfs_sI X μ a i b x hs hk1]) (fun q' h => xe_sI X μ a i b x q' h)
  have hn : narrow (xsty k) (.int x) = .int x := by
    rcases hk with rfl | ⟨rfl, rfl | rfl⟩ <;> first | rfl | decide +kernel
  have hfit : fits (xsty k) (.int x) = true := by
    rcases hk with rfl | ⟨rfl, rfl | rfl⟩ <;> first | rfl | decide +kernel
  refine va_put (D := xD X) (cl := xcl) (ws := xws X μ) (tys := xtys X) (A := xA X) (H0 := s.heap) hx hb hts hin ty0 hty hnm hown hK hP (hX.1 μ) hS q0 he hcl b hbN (hts _ hw) (fun _ h => h) hfin (ty := xsty k) (v := .int x) hpd hn hfit hlt hdg (fun H1 locs1 hP1 _ hS1 => ?_)
  rw [hset] at hP1
  exact kk H1 locs1 ⟨hP1, hS1, by unfold xscr; rw [aI_sI, rI_sI, if_neg (fun z => by have := xlay_lt hs; omega)]; exact hscr⟩
theorem xr_putL (C : XCt X p R s m args c cc own nL) (hI : XI X s μ H locs) {a b i idx : Nat} {x : Int64} (hf : xfl own (idx, a, b)) (hq : (a, i, 0) ∈ xdom) (hs : (xlay a)[b]? = some (.inl 1)) (hdg : decode cc pc = .ok (.putfield idx, 3))
    (kk : ∀ H1 locs1, XI X s (sL μ a i b x) H1 locs1 → W p l e R s m args below meth c H1 locs1 cells slots Z (F0 m (pc + 3) ls rest)) : W p l e R s m args below meth c H locs cells slots Z (F0 m pc ls (.long x :: .ref (xad X (a, i, 0)) :: rest)) := by
  obtain ⟨hx, hb, hml, hown, hts, hK, hC, hX, -, -⟩ := C
  obtain ⟨hP, hS, hscr⟩ := hI
  obtain ⟨C, T, N, hcl, hbN, hw⟩ := hf
  obtain ⟨hlen, hin, ⟨ty0, hty⟩, hnm, hsl⟩ := xcfs hcl
  have ⟨hfin, hpd⟩ : (T b).2.2.2 = false ∧ parseFieldDescriptor (T b).2.2.1 = some (xsty 1) := by have h := hsl b hbN; rw [hs] at h; exact h
  obtain ⟨q0, hq0⟩ := xpos hq
  have he := xws_get X μ hq0
  have hlt : b < (xfs X μ a i).length := by simp [xfs, hlen, hbN]
  have hset : (xws X μ).set q0 (xad X (a, i, 0), .inr (a, (xfs X μ a i).set b (.long x))) = xws X (sL μ a i b x) := xws_set X μ (sL μ a i b x) hq0 (by show Sum.inr (a, xfs X (sL μ a i b x) a i) = _; rw [xfs_sL X μ a i b x hs]) (fun q' h => xe_sL X μ a i b x q' h)
  refine va_put (D := xD X) (cl := xcl) (ws := xws X μ) (tys := xtys X) (A := xA X) (H0 := s.heap) hx hb hts hin ty0 hty hnm hown hK hP (hX.1 μ) hS q0 he hcl b hbN (hts _ hw) (fun _ h => h) hfin (ty := .long) (v := .long x) hpd rfl rfl hlt hdg (fun H1 locs1 hP1 _ hS1 => ?_)
  rw [hset] at hP1
  exact kk H1 locs1 ⟨hP1, hS1, by unfold xscr; rw [aI_sL, rI_sL]; exact hscr⟩
-- arrays: loads
theorem xae_i (X : XP) (μ : XM) {t i j kd n : Nat} (h : xarr t j = (kd, n)) (hk : kd = 0 ∨ kd = 2 ∨ kd = 3) : xe X μ (t, i, j + 1) = .inl (xcy X kd, n, .inl (aI μ t i j)) := by
  rcases hk with rfl | rfl | rfl <;> simp [xe, xae, h]
theorem xae_l (X : XP) (μ : XM) {t i j n : Nat} (h : xarr t j = (1, n)) : xe X μ (t, i, j + 1) = .inl (xcy X 1, n, .inr (.inl (aL μ t i j))) := by simp [xe, xae, h]
theorem xr_ld (C : XCt X p R s m args c cc own nL) (hI : XI X s μ H locs) {t i j kd n : Nat} {x : Int32} (hq : (t, i, j + 1) ∈ xdom) (ha : xarr t j = (kd, n)) (hin : xin x n = true)
    (hdg : (kd = 0 ∧ decode cc pc = .ok (.iaload, 1)) ∨ (kd = 2 ∧ decode cc pc = .ok (.caload, 1)) ∨ (kd = 3 ∧ decode cc pc = .ok (.baload, 1)))
    (kk : W p l e R s m args below meth c H locs cells slots Z (F0 m (pc + 1) ls (.int (aI μ t i j x.toNatClampNeg) :: rest))) : W p l e R s m args below meth c H locs cells slots Z (F0 m pc ls (.int x :: .ref (xad X (t, i, j + 1)) :: rest)) := by
  obtain ⟨hx, hb, hml, hown, hts, hK, hC, hX, -, -⟩ := C
  obtain ⟨hP, hS, -⟩ := hI
  obtain ⟨q0, hq0⟩ := xpos hq
  have he := xws_get X μ hq0
  rw [xae_i X μ ha (by omega)] at he
  rcases hdg with ⟨rfl, hdg⟩ | ⟨rfl, hdg⟩ | ⟨rfl, hdg⟩
  · exact va_iald hx hb hK hP q0 0 he rfl (xin_vp hin) hdg kk
  · exact va_cald hx hb hK hP q0 2 he rfl (xin_vp hin) hdg kk
  · exact va_zald hx hb hK hP q0 3 he rfl (xin_vp hin) hdg kk
theorem xr_ldl (C : XCt X p R s m args c cc own nL) (hI : XI X s μ H locs) {t i j n : Nat} {x : Int32} (hq : (t, i, j + 1) ∈ xdom) (ha : xarr t j = (1, n)) (hin : xin x n = true) (hdg : decode cc pc = .ok (.laload, 1))
    (kk : W p l e R s m args below meth c H locs cells slots Z (F0 m (pc + 1) ls (.long (aL μ t i j x.toNatClampNeg) :: rest))) : W p l e R s m args below meth c H locs cells slots Z (F0 m pc ls (.int x :: .ref (xad X (t, i, j + 1)) :: rest)) := by
  obtain ⟨hx, hb, hml, hown, hts, hK, hC, hX, -, -⟩ := C
  obtain ⟨hP, hS, -⟩ := hI
  obtain ⟨q0, hq0⟩ := xpos hq
  have he := xws_get X μ hq0
  rw [xae_l X μ ha] at he
  exact va_lald hx hb hK hP q0 1 he rfl (xin_vp hin) hdg kk
theorem xr_ldr (C : XCt X p R s m args c cc own nL) (hI : XI X s μ H locs) {t i j kd n : Nat} {x : Int32} (hq : (t, i, j + 1) ∈ xdom) (ha : xarr t j = (kd, n)) (hkd : kd = 4 ∨ kd = 5) (hin : xin x n = true) (hdg : decode cc pc = .ok (.aaload, 1))
    (kk : W p l e R s m args below meth c H locs cells slots Z (F0 m (pc + 1) ls (.ref (xad X (xrow kd x.toNatClampNeg)) :: rest))) : W p l e R s m args below meth c H locs cells slots Z (F0 m pc ls (.int x :: .ref (xad X (t, i, j + 1)) :: rest)) := by
  obtain ⟨hx, hb, hml, hown, hts, hK, hC, hX, -, -⟩ := C
  obtain ⟨hP, hS, -⟩ := hI
  obtain ⟨q0, hq0⟩ := xpos hq
  have he := xws_get X μ hq0
  rcases hkd with rfl | rfl
  · rw [show xe X μ (t, i, j + 1) = .inl (xcy X 4, n, .inr (.inr (.inr (.inr (fun k => some (xad X (xrow 4 k))))))) by simp [xe, xae, ha]] at he
    exact va_aldq hx hb hK hP q0 4 he rfl (xin_vp hin) hdg kk
  · rw [show xe X μ (t, i, j + 1) = .inl (xcy X 5, n, .inr (.inr (.inr (.inr (fun k => some (xad X (xrow 5 k))))))) by simp [xe, xae, ha]] at he
    exact va_aldq hx hb hK hP q0 5 he rfl (xin_vp hin) hdg kk
theorem xr_scr (C : XCt X p R s m args c cc own nL) (hI : XI X s μ H locs) {x : Int32} (hin : xin x (rI μ 13 0 0).toNatClampNeg = true) (hdg : decode cc pc = .ok (.iaload, 1))
    (kk : W p l e R s m args below meth c H locs cells slots Z (F0 m (pc + 1) ls (.int (aI μ 13 0 0 x.toNatClampNeg) :: rest))) : W p l e R s m args below meth c H locs cells slots Z (F0 m pc ls (.int x :: .ref (xad X (13, 0, 1)) :: rest)) := by
  obtain ⟨hx, hb, hml, hown, hts, hK, hC, hX, -, -⟩ := C
  obtain ⟨hP, hS, h1, h2⟩ := hI
  obtain ⟨g1, g2, g3⟩ := hX.2.2.2.1 s s.heap hC
  rw [h2, nI_clamp hX.2.2.2.2.2.2] at hin
  rw [h1] at kk
  exact va_sld hx hb g1 g3 g2 hS (xin_vp hin) hdg kk
theorem xr_scl (C : XCt X p R s m args c cc own nL) (hI : XI X s μ H locs) (hdg : decode cc pc = .ok (.arraylength, 1))
    (kk : W p l e R s m args below meth c H locs cells slots Z (F0 m (pc + 1) ls (.int (rI μ 13 0 0) :: rest))) : W p l e R s m args below meth c H locs cells slots Z (F0 m pc ls (.ref (xad X (13, 0, 1)) :: rest)) := by
  obtain ⟨hx, hb, hml, hown, hts, hK, hC, hX, -, -⟩ := C
  obtain ⟨hP, hS, h1, h2⟩ := hI
  obtain ⟨⟨scr, g1, g2, g3, g4, g5⟩, gA, gl⟩ := hX.2.2.2.1 s s.heap hC
  refine W.alen (n := rI μ 13 0 0) hx hb (a := xad X (13, 0, 1)) (cell := scr) (by rw [hS.2.1 _ gl gA]; exact g1) g2 (by rw [g4, h2]; rfl) (g := F0 m pc ls (.ref (xad X (13, 0, 1)) :: rest)) rfl rfl hdg kk
theorem xr_alen (C : XCt X p R s m args c cc own nL) (hI : XI X s μ H locs) {t i j kd n : Nat} (hq : (t, i, j + 1) ∈ xdom) (ha : xarr t j = (kd, n)) (hkd : kd ≤ 5) (hdg : decode cc pc = .ok (.arraylength, 1))
    (kk : W p l e R s m args below meth c H locs cells slots Z (F0 m (pc + 1) ls (.int (nI n) :: rest))) : W p l e R s m args below meth c H locs cells slots Z (F0 m pc ls (.ref (xad X (t, i, j + 1)) :: rest)) := by
  obtain ⟨hx, hb, hml, hown, hts, hK, hC, hX, -, -⟩ := C
  obtain ⟨hP, hS, -⟩ := hI
  obtain ⟨q0, hq0⟩ := xpos hq
  have he := xws_get X μ hq0
  rcases (show kd = 0 ∨ kd = 1 ∨ kd = 2 ∨ kd = 3 ∨ kd = 4 ∨ kd = 5 by omega) with rfl | rfl | rfl | rfl | rfl | rfl
  · rw [xae_i X μ ha (by omega)] at he; exact va_alen hx hb hK hP q0 0 he rfl rfl hdg kk
  · rw [xae_l X μ ha] at he; exact va_alen hx hb hK hP q0 1 he rfl rfl hdg kk
  · rw [xae_i X μ ha (by omega)] at he; exact va_alen hx hb hK hP q0 2 he rfl rfl hdg kk
  · rw [xae_i X μ ha (by omega)] at he; exact va_alen hx hb hK hP q0 3 he rfl rfl hdg kk
  · rw [show xe X μ (t, i, j + 1) = .inl (xcy X 4, n, .inr (.inr (.inr (.inr (fun k => some (xad X (xrow 4 k))))))) by simp [xe, xae, ha]] at he
    exact va_alen hx hb hK hP q0 4 he rfl rfl hdg kk
  · rw [show xe X μ (t, i, j + 1) = .inl (xcy X 5, n, .inr (.inr (.inr (.inr (fun k => some (xad X (xrow 5 k))))))) by simp [xe, xae, ha]] at he
    exact va_alen hx hb hK hP q0 5 he rfl rfl hdg kk
-- arrays: stores
theorem xarr_lt {t j kd n : Nat} (h : xarr t j = (kd, n)) (hk : kd ≤ 5) : t ≠ 13 := by
  intro ht
  subst ht
  rcases j with _ | j
  · have : xarr 13 0 = (8, 0) := rfl
    rw [this] at h; cases h; omega
  · have : xarr 13 (j + 1) = (9, 0) := by simp [xarr]
    rw [this] at h; cases h; omega
theorem xscr_wI {t i j : Nat} {f : Nat → Int32} (h : xscr X μ) (ht : t ≠ 13) : xscr X (wI μ t i j f) := by
  unfold xscr
  rw [aI_wI, rI_wI, if_neg (fun z => ht z.1.symm)]
  exact h
theorem xscr_wL {t i j : Nat} {f : Nat → Int64} (h : xscr X μ) : xscr X (wL μ t i j f) := by
  unfold xscr
  rw [aI_wL, rI_wL]
  exact h
theorem xset_wI (X : XP) (μ : XM) {t i j kd n p : Nat} (f : Nat → Int32) (hp : xdom[p]? = some (t, i, j + 1)) (ha : xarr t j = (kd, n)) (hk : kd = 0 ∨ kd = 2 ∨ kd = 3) :
    (xws X μ).set p (xad X (t, i, j + 1), .inl (xcy X kd, n, .inl f)) = xws X (wI μ t i j f) :=
  xws_set X μ (wI μ t i j f) hp (by rw [xae_i X _ ha hk, aI_wI, if_pos ⟨rfl, rfl, rfl⟩]) (fun q' h => xe_wI X μ t i j f q' h)
theorem xset_wL (X : XP) (μ : XM) {t i j n p : Nat} (f : Nat → Int64) (hp : xdom[p]? = some (t, i, j + 1)) (ha : xarr t j = (1, n)) :
    (xws X μ).set p (xad X (t, i, j + 1), .inl (xcy X 1, n, .inr (.inl f))) = xws X (wL μ t i j f) :=
  xws_set X μ (wL μ t i j f) hp (by rw [xae_l X _ ha, aL_wL, if_pos ⟨rfl, rfl, rfl⟩]) (fun q' h => xe_wL X μ t i j f q' h)
theorem vp_nar_bool {x : Int32} (h : x = 0 ∨ x = 1) : vp_nar .boolean x = x := by
  rcases h with rfl | rfl <;> decide +kernel
theorem xr_st (C : XCt X p R s m args c cc own nL) (hI : XI X s μ H locs) {t i j kd n : Nat} {x v w : Int32} (hq : (t, i, j + 1) ∈ xdom) (ha : xarr t j = (kd, n)) (hin : xin x n = true)
    (hdg : (kd = 0 ∧ w = v ∧ decode cc pc = .ok (.iastore, 1)) ∨ (kd = 2 ∧ w = vp_nar .char v ∧ decode cc pc = .ok (.castore, 1)) ∨ (kd = 3 ∧ w = v ∧ (v = 0 ∨ v = 1) ∧ decode cc pc = .ok (.bastore, 1)))
    (kk : ∀ H1 locs1, XI X s (pI μ t i j x.toNatClampNeg w) H1 locs1 → W p l e R s m args below meth c H1 locs1 cells slots Z (F0 m (pc + 1) ls rest)) : W p l e R s m args below meth c H locs cells slots Z (F0 m pc ls (.int v :: .int x :: .ref (xad X (t, i, j + 1)) :: rest)) := by
  obtain ⟨hx, hb, hml, hown, hts, hK, hC, hX, -, -⟩ := C
  obtain ⟨hP, hS, hscr⟩ := hI
  obtain ⟨q0, hq0⟩ := xpos hq
  have he := xws_get X μ hq0
  rw [xae_i X μ ha (by omega)] at he
  have ht : t ≠ 13 := xarr_lt ha (by omega)
  rcases hdg with ⟨rfl, rfl, hdg⟩ | ⟨rfl, rfl, hdg⟩ | ⟨rfl, rfl, hv, hdg⟩
  · refine va_iast (A := xA X) (H0 := s.heap) hx hb hK hP (hX.1 μ) hS q0 0 he rfl (xin_vp hin) hdg (fun H1 locs1 hP1 _ hS1 => kk H1 locs1 ⟨?_, hS1, xscr_wI hscr ht⟩)
    rw [xset_wI X μ _ hq0 ha (by omega)] at hP1; exact hP1
  · refine va_cast (A := xA X) (H0 := s.heap) hx hb hK hP (hX.1 μ) hS q0 2 he rfl (xin_vp hin) hdg (fun H1 locs1 hP1 _ hS1 => kk H1 locs1 ⟨?_, hS1, xscr_wI hscr ht⟩)
    rw [xset_wI X μ _ hq0 ha (by omega)] at hP1; exact hP1
  · refine va_zast (A := xA X) (H0 := s.heap) hx hb hK hP (hX.1 μ) hS q0 3 he rfl (xin_vp hin) hdg (fun H1 locs1 hP1 _ hS1 => kk H1 locs1 ⟨?_, hS1, xscr_wI hscr ht⟩)
    rw [vp_nar_bool hv, xset_wI X μ _ hq0 ha (by omega)] at hP1; exact hP1
theorem xr_stl (C : XCt X p R s m args c cc own nL) (hI : XI X s μ H locs) {t i j n : Nat} {x : Int32} {v : Int64} (hq : (t, i, j + 1) ∈ xdom) (ha : xarr t j = (1, n)) (hin : xin x n = true) (hdg : decode cc pc = .ok (.lastore, 1))
    (kk : ∀ H1 locs1, XI X s (pL μ t i j x.toNatClampNeg v) H1 locs1 → W p l e R s m args below meth c H1 locs1 cells slots Z (F0 m (pc + 1) ls rest)) : W p l e R s m args below meth c H locs cells slots Z (F0 m pc ls (.long v :: .int x :: .ref (xad X (t, i, j + 1)) :: rest)) := by
  obtain ⟨hx, hb, hml, hown, hts, hK, hC, hX, -, -⟩ := C
  obtain ⟨hP, hS, hscr⟩ := hI
  obtain ⟨q0, hq0⟩ := xpos hq
  have he := xws_get X μ hq0
  rw [xae_l X μ ha] at he
  refine va_last (A := xA X) (H0 := s.heap) hx hb hK hP (hX.1 μ) hS q0 1 he rfl (xin_vp hin) hdg (fun H1 locs1 hP1 _ hS1 => kk H1 locs1 ⟨?_, hS1, xscr_wL hscr⟩)
  rw [xset_wL X μ _ hq0 ha] at hP1; exact hP1
/-- the JDK's functions that are rows here: 1 max, 2 min, 3 abs, 4 arraycopy -/
def xjd (own : String) (q : Nat × Nat) : Prop :=
  (q.2 = 1 ∧ Cond.methodLink own q.1 Lib.Math.max.name ∈ xG ∧ Cond.static Lib.Math.max.name ∈ xG ∧ Cond.initialized "java/lang/Math" ∈ xG ∧ Cond.code Lib.Math.max.name Lib.Math.max.code 2 (some .int) ∈ xG) ∨
  (q.2 = 2 ∧ Cond.methodLink own q.1 Lib.Math.min.name ∈ xG ∧ Cond.static Lib.Math.min.name ∈ xG ∧ Cond.initialized "java/lang/Math" ∈ xG ∧ Cond.code Lib.Math.min.name Lib.Math.min.code 2 (some .int) ∈ xG) ∨
  (q.2 = 3 ∧ Cond.methodLink own q.1 Lib.Math.abs.name ∈ xG ∧ Cond.static Lib.Math.abs.name ∈ xG ∧ Cond.initialized "java/lang/Math" ∈ xG ∧ Cond.code Lib.Math.abs.name Lib.Math.abs.code 1 (some .int) ∈ xG) ∨
  (q.2 = 4 ∧ Cond.methodLink own q.1 arraycopyName ∈ xG ∧ Cond.native arraycopyName ∈ xG ∧ Cond.static arraycopyName ∈ xG ∧ Cond.initialized "java/lang/System" ∈ xG)
theorem xcpok_of {sp dp n : Int32} {n0 n1 : Nat} (h : xcpok sp dp n n0 n1 = true) : ¬ sp < 0 ∧ ¬ dp < 0 ∧ ¬ n < 0 ∧ sp.toNatClampNeg + n.toNatClampNeg ≤ n0 ∧ dp.toNatClampNeg + n.toNatClampNeg ≤ n1 := by
  simp only [xcpok, Bool.and_eq_true, Bool.not_eq_true', decide_eq_false_iff_not, decide_eq_true_eq] at h
  exact ⟨h.1.1.1.1, h.1.1.1.2, h.1.1.2, h.1.2, h.2⟩
theorem xnfw : nativeFrameWords "java/lang/System" "arraycopy" 5 ≤ 60 := by decide +kernel
theorem xr_cpi (C : XCt X p R s m args c cc own nL) (hls : ls.size = nL) (hI : XI X s μ H locs) {t0 i0 j0 t1 i1 j1 n0 n1 idx : Nat} {sp dp n : Int32} (hj : xjd own (idx, 4)) (hq0 : (t0, i0, j0 + 1) ∈ xdom) (hq1 : (t1, i1, j1 + 1) ∈ xdom) (ha0 : xarr t0 j0 = (0, n0)) (ha1 : xarr t1 j1 = (0, n1)) (hok : xcpok sp dp n n0 n1 = true) (hr : (rest.map fun v => v.category).sum ≤ 8) (hdg : decode cc pc = .ok (.invokestatic idx, 3))
    (kk : ∀ H1 locs1, XI X s (wI μ t1 i1 j1 (va_cpy (aI μ t0 i0 j0) (aI μ t1 i1 j1) sp.toNatClampNeg dp.toNatClampNeg n.toNatClampNeg)) H1 locs1 → W p l e R s m args below meth c H1 locs1 cells slots Z (F0 m (pc + 3) ls rest)) : W p l e R s m args below meth c H locs cells slots Z (F0 m pc ls (.int n :: .int dp :: .ref (xad X (t1, i1, j1 + 1)) :: .int sp :: .ref (xad X (t0, i0, j0 + 1)) :: rest)) := by
  obtain ⟨hx, hb, hml, hown, hts, hK, hC, hX, hfr, hlo⟩ := C
  obtain ⟨hP, hS, hscr⟩ := hI
  obtain ⟨z, -⟩ | ⟨z, -⟩ | ⟨z, -⟩ | ⟨-, w1, w2, w3, w4⟩ := hj
  · cases z
  · cases z
  · cases z
  obtain ⟨p0, hp0⟩ := xpos hq0
  obtain ⟨p1, hp1⟩ := xpos hq1
  have he0 := xws_get X μ hp0
  have he1 := xws_get X μ hp1
  rw [xae_i X μ ha0 (by omega)] at he0
  rw [xae_i X μ ha1 (by omega)] at he1
  obtain ⟨k1, k2, k3, k4, k5⟩ := xcpok_of hok
  have hrm : (rest.map fun v => v.category).sum + (nativeFrameWords "java/lang/System" "arraycopy" 5 + 11) ≤ R.locals := by
    have := xnfw
    omega
  refine va_copyi (A := xA X) (H0 := s.heap) hx hb (by rw [hml, hls]) hown (hts _ w1) (hts _ w2) (hts _ w3) (hts _ w4) hK hP (hX.1 μ) hS p0 p1 0 0 he0 he1 rfl rfl rfl k1 k2 k3 k4 k5 (fun _ _ => rfl) hfr hrm hdg (fun H1 locs1 hP1 _ hS1 => kk H1 locs1 ⟨?_, hS1, xscr_wI hscr (xarr_lt ha1 (by omega))⟩)
  rw [xset_wI X μ _ hp1 ha1 (by omega)] at hP1; exact hP1
theorem xr_cpl (C : XCt X p R s m args c cc own nL) (hls : ls.size = nL) (hI : XI X s μ H locs) {t0 i0 j0 t1 i1 j1 n0 n1 idx : Nat} {sp dp n : Int32} (hj : xjd own (idx, 4)) (hq0 : (t0, i0, j0 + 1) ∈ xdom) (hq1 : (t1, i1, j1 + 1) ∈ xdom) (ha0 : xarr t0 j0 = (1, n0)) (ha1 : xarr t1 j1 = (1, n1)) (hok : xcpok sp dp n n0 n1 = true) (hr : (rest.map fun v => v.category).sum ≤ 8) (hdg : decode cc pc = .ok (.invokestatic idx, 3))
    (kk : ∀ H1 locs1, XI X s (wL μ t1 i1 j1 (va_cpy (aL μ t0 i0 j0) (aL μ t1 i1 j1) sp.toNatClampNeg dp.toNatClampNeg n.toNatClampNeg)) H1 locs1 → W p l e R s m args below meth c H1 locs1 cells slots Z (F0 m (pc + 3) ls rest)) : W p l e R s m args below meth c H locs cells slots Z (F0 m pc ls (.int n :: .int dp :: .ref (xad X (t1, i1, j1 + 1)) :: .int sp :: .ref (xad X (t0, i0, j0 + 1)) :: rest)) := by
  obtain ⟨hx, hb, hml, hown, hts, hK, hC, hX, hfr, hlo⟩ := C
  obtain ⟨hP, hS, hscr⟩ := hI
  obtain ⟨z, -⟩ | ⟨z, -⟩ | ⟨z, -⟩ | ⟨-, w1, w2, w3, w4⟩ := hj
  · cases z
  · cases z
  · cases z
  obtain ⟨p0, hp0⟩ := xpos hq0
  obtain ⟨p1, hp1⟩ := xpos hq1
  have he0 := xws_get X μ hp0
  have he1 := xws_get X μ hp1
  rw [xae_l X μ ha0] at he0
  rw [xae_l X μ ha1] at he1
  obtain ⟨k1, k2, k3, k4, k5⟩ := xcpok_of hok
  have hrm : (rest.map fun v => v.category).sum + (nativeFrameWords "java/lang/System" "arraycopy" 5 + 11) ≤ R.locals := by
    have := xnfw
    omega
  refine va_copyl (A := xA X) (H0 := s.heap) hx hb (by rw [hml, hls]) hown (hts _ w1) (hts _ w2) (hts _ w3) (hts _ w4) hK hP (hX.1 μ) hS p0 p1 1 1 he0 he1 rfl rfl rfl k1 k2 k3 k4 k5 (fun _ _ => rfl) hfr hrm hdg (fun H1 locs1 hP1 _ hS1 => kk H1 locs1 ⟨?_, hS1, xscr_wL hscr⟩)
  rw [xset_wL X μ _ hp1 ha1] at hP1; exact hP1
end
end
section
/-! calls -/
def xcal (X : XP) (l : Launch) (R : Room) (own : String) (ac as : Nat) (q : Nat × Nat × Nat × Nat × XF) : Prop :=
  ∃ (y : MethodName) (bytes : ByteArray) (maxL : Nat) (ret : Option FieldType) (rm : Room) (mc ms : Nat), Ctr X l y bytes maxL ret rm mc ms q.2.2.2.2 ∧ rm.cells = mc ∧ rm.slots = ms ∧ mc ≤ ac ∧ ms ≤ as ∧
    Cond.code y bytes maxL ret ∈ xG ∧ Cond.methodLink own q.1 y ∈ xG ∧ Cond.initialized y.cls ∈ xG ∧ (y.cls ≠ "java/lang/invoke/MethodHandle" ∧ y.cls ≠ "java/lang/invoke/VarHandle") ∧ rm.frames + 1 ≤ R.frames ∧ 8 + (maxL + 11) + rm.locals ≤ R.locals ∧
    ((q.2.2.2.1 = 99 ∧ Cond.static y ∈ xG ∧ (parseMethodDescriptor y.desc).map (fun d => d.parameters.length) = some q.2.2.1) ∨
     (q.2.2.2.1 ≠ 99 ∧ Cond.instanceMethod y ∈ xG ∧ Cond.selects y.cls y y ∈ xG ∧ y.cls = xcn q.2.2.2.1 ∧ ∃ n, q.2.2.1 = n + 1 ∧ (parseMethodDescriptor y.desc).map (fun d => d.parameters.length) = some n))
theorem xpop_some : ∀ (a : Nat) (acc st : List XV) (as rest : List XV), xpop a acc st = some (as, rest) → ∃ bs, as = bs ++ acc ∧ bs.length = a ∧ st = bs.reverse ++ rest := by
  intro a
  induction a with
  | zero => intro acc st as rest h; simp only [xpop, Option.some.injEq, Prod.mk.injEq] at h; exact ⟨[], by rw [← h.1]; rfl, rfl, by rw [← h.2]; rfl⟩
  | succ a ih =>
    intro acc st as rest h
    cases st with
    | nil => simp [xpop] at h
    | cons v st =>
      obtain ⟨bs, h1, h2, h3⟩ := ih (v :: acc) st as rest h
      exact ⟨bs ++ [v], by rw [h1]; simp, by simp [h2], by rw [h3]; simp⟩
theorem xsum_xc (X : XP) (st : List XV) : ((st.map (xc X)).map fun v => v.category).sum = xsum st := by
  unfold xsum
  congr 1
  rw [List.map_map]
  apply List.map_congr_left
  intro v _
  exact xc_cat X v
theorem xG_GoodIn {y : MethodName} {bytes : ByteArray} {maxL : Nat} {ret : Option FieldType} (h : Cond.code y bytes maxL ret ∈ xG) : GoodIn xG (Cond.code y bytes maxL ret :: xG) := by
  intro w hw
  rcases List.mem_cons.mp hw with rfl | hw
  · exact ⟨h, good_of_word (xG_good _ h)⟩
  · exact ⟨hw, good_of_word (xG_good _ hw)⟩
section
variable {p : Program} {l : Launch} {e : Env} {R : Room} {s : State} {m : MethodId} {args : Array Value} {below : List Frame} {meth : Method} {c : Code} {Z : State → Prop} {cc : ByteArray} {own : String} {X : XP} {nL : Nat} {μ : XM} {H : Heap} {locs : List Loc} {cells slots pc : Nat} {ls : Array Slot} {rest : List XV}
theorem xC_now (C : XCt X p R s m args c cc own nL) (hI : XI X s μ H locs) : xC X s H := C.2.2.2.2.2.2.2.1.2.2.1 s s.heap H hI.2.1.1 hI.2.1.2.1 C.2.2.2.2.2.2.1
theorem xW_now (C : XCt X p R s m args c cc own nL) (hI : XI X s μ H locs) {U : State} (hU : U.heap = H) (hW : s.WarmedH U.vm) : XW X μ U := by
  refine ⟨by rw [hU]; exact hI.1, va_K.moved hW.alike C.2.2.2.2.2.1, ?_, hI.2.2⟩
  rw [hU]
  exact C.2.2.2.2.2.2.2.1.2.1 s U H hW.alike (xC_now C hI)
/-- what comes behind a call -/
theorem xr_back (hI : XI X s μ H locs) {st0 : List Value} {mc ms : Nat} {a : Array Value} {r : Option XV} {μ' : XM} (hr0 : ∀ q, r ≠ some (.inr (.inr q)))
    (hr : va_Run p l e R s m args below meth c H locs cells slots mc ms (F0 m pc ls st0) (rest.map (xc X)) (xQ X r μ' a) (xA X))
    (kk : ∀ H1 locs1, XI X s μ' H1 locs1 → W p l e R s m args below meth c H1 locs1 (cells + mc) (slots + ms) Z (F0 m (pc + 3) ls ((r.toList ++ rest).map (xc X)))) : W p l e R s m args below meth c H locs cells slots Z (F0 m pc ls st0) := by
  rcases r with _ | x | x | q
  · exact va_callv (a := a) hr hI.2.1 (fun _ _ h => h) (fun _ h => h) (fun u t H1 locs1 ht hvm hw hB hz hk hS => kk H1 locs1 ⟨by rw [← ht]; exact hB.1, hS, hB.2.2.2⟩)
  · refine va_calli (a := a) hr hI.2.1 (fun _ _ h => h) (fun _ h => h) (fun y u t H1 locs1 ht hvm hw hB hz hk hS => ?_)
    rw [show y = x from hw]
    exact kk H1 locs1 ⟨by rw [← ht]; exact hB.1, hS, hB.2.2.2⟩
  · refine va_calll (a := a) hr hI.2.1 (fun _ _ h => h) (fun _ h => h) (fun y u t H1 locs1 ht hvm hw hB hz hk hS => ?_)
    rw [show y = x from hw]
    exact kk H1 locs1 ⟨by rw [← ht]; exact hB.1, hS, hB.2.2.2⟩
  · exact absurd rfl (hr0 q)
theorem xr_callV (C : XCt X p R s m args c cc own nL) (hls : ls.size = nL) (hI : XI X s μ H locs) {ac as idx rk na tg : Nat} {F : XF} (hcal : xcal X l R own ac as (idx, rk, na, tg, F)) (htg : tg ≠ 99) {i : Nat} {bs : List XV} (hok : ∀ v ∈ (xr tg i 0 :: bs), xok v) (hlen : bs.length + 1 = na) {r : Option XV} {μ' : XM} (hr0 : ∀ q, r ≠ some (.inr (.inr q))) (hF : F (xr tg i 0 :: bs) μ = some (r, μ'))
    (hsum : xsum rest ≤ 8) (hdg : decode cc pc = .ok (.invokevirtual idx, 3)) (hcap : cells + ac ≤ R.cells ∧ slots + as ≤ R.slots)
    (kk : ∀ mc ms H1 locs1, mc ≤ ac → ms ≤ as → XI X s μ' H1 locs1 → W p l e R s m args below meth c H1 locs1 (cells + mc) (slots + ms) Z (F0 m (pc + 3) ls ((r.toList ++ rest).map (xc X)))) :
    W p l e R s m args below meth c H locs cells slots Z (F0 m pc ls ((bs.reverse ++ xr tg i 0 :: rest).map (xc X))) := by
  obtain ⟨y, bytes, maxL, ret, rm, mc, ms, hCtr, hrc, hrs, hmc, hms, hcode, hlink, hini, hy, hfr, hlo, hkind⟩ := hcal
  rcases hkind with ⟨z, -⟩ | ⟨-, hinst, hsel, hycl, n, hn, hpar⟩
  · exact absurd z htg
  have hts := C.2.2.2.2.1
  have hX := C.2.2.2.2.2.2.2.1
  have hMet := hCtr (xr tg i 0 :: bs) μ r μ' hok hF
  have hrecv : ∃ cellB : Cell, H[xad X (tg, i, 0)]? = some cellB ∧ cellB.vm.isStatics = false ∧ s.vm.findClass y.cls = some cellB.cls := by
    have ho : (tg, i, 0) ∈ xdom ∨ (tg, i, 0) = (13, 0, 1) ∨ (tg = 15 ∧ i < 2 ∧ 0 = 0) := hok (xr tg i 0) List.mem_cons_self
    rcases ho with ho | ho | ⟨rfl, hi, -⟩
    · obtain ⟨q0, hq0⟩ := xpos ho
      have he := xws_get X μ hq0
      have ht : tg < 13 := by
        have h0 : xdom.all (fun q => match q with | (t, _, 0) => decide (t < 13) | _ => true) = true := by decide +kernel
        exact of_decide_eq_true (List.all_eq_true.mp h0 _ ho)
      obtain ⟨C1, T1, N1, hcl⟩ := xcl_of ht
      obtain ⟨cell, g1, g2, g3⟩ := va_recv (q0 := q0) C.2.2.2.2.2.1 hI.1 hcl he
      refine ⟨cell, g1, g2, ?_⟩
      rw [hycl]
      have h15 : ¬ tg = 15 := by omega
      simp only [xcn, if_neg h15, hcl, Option.map_some, Option.getD_some]
      exact g3
    · simp at ho
    · rw [hycl]
      exact hX.2.2.2.2.1 s H i hi (xC_now C hI)
  have hrun := va_runV (p := p) (e := e) (R := R) (m := m) (below := below) (meth := meth) (H := H) (locs := locs) (cells := cells) (slots := slots) (As := bs.map (xc X)) (rest := rest.map (xc X)) (b := xad X (tg, i, 0)) (C := y.cls) (n := n) (index := idx) (g := F0 m pc ls ((bs.reverse ++ xr tg i 0 :: rest).map (xc X))) ⟨C.1, C.2.1, C.2.2.1, C.2.2.2.1, hts⟩ hMet
    ⟨callB_of n hts (xG_GoodIn hcode) rfl hrc hrs (hts _ hini) (hts _ hlink) ⟨hy.1, hy.2, hpar⟩ ⟨hfr, hlo⟩, hts _ hinst, hts _ hsel⟩
    ⟨xW_blind X hX μ _, hrecv, fun U hU hW => ⟨rfl, xW_now C hI hU hW⟩⟩ rfl (by simp at hn ⊢; omega) hls (by simp [xc]) (lv_room (by rw [xsum_xc]; exact hsum)) hdg ⟨by omega, by omega⟩
  exact xr_back hI hr0 hrun (fun H1 locs1 h => kk mc ms H1 locs1 hmc hms h)
theorem xr_callS (C : XCt X p R s m args c cc own nL) (hls : ls.size = nL) (hI : XI X s μ H locs) {ac as idx rk na : Nat} {F : XF} (hcal : xcal X l R own ac as (idx, rk, na, 99, F)) {bs : List XV} (hok : ∀ v ∈ bs, xok v) (hlen : bs.length = na) {r : Option XV} {μ' : XM} (hr0 : ∀ q, r ≠ some (.inr (.inr q))) (hF : F bs μ = some (r, μ'))
    (hsum : xsum rest ≤ 8) (hdg : decode cc pc = .ok (.invokestatic idx, 3)) (hcap : cells + ac ≤ R.cells ∧ slots + as ≤ R.slots)
    (kk : ∀ mc ms H1 locs1, mc ≤ ac → ms ≤ as → XI X s μ' H1 locs1 → W p l e R s m args below meth c H1 locs1 (cells + mc) (slots + ms) Z (F0 m (pc + 3) ls ((r.toList ++ rest).map (xc X)))) :
    W p l e R s m args below meth c H locs cells slots Z (F0 m pc ls ((bs.reverse ++ rest).map (xc X))) := by
  obtain ⟨y, bytes, maxL, ret, rm, mc, ms, hCtr, hrc, hrs, hmc, hms, hcode, hlink, hini, hy, hfr, hlo, hkind⟩ := hcal
  obtain ⟨hstat, hpar⟩ : Cond.static y ∈ xG ∧ (parseMethodDescriptor y.desc).map (fun d => d.parameters.length) = some na := by
    rcases hkind with ⟨-, hstat, hpar⟩ | ⟨z, -⟩
    · exact ⟨hstat, hpar⟩
    · exact absurd rfl z
  have hts := C.2.2.2.2.1
  have hX := C.2.2.2.2.2.2.2.1
  have hMet := hCtr bs μ r μ' hok hF
  have hrun := va_runS (p := p) (e := e) (R := R) (m := m) (below := below) (meth := meth) (H := H) (locs := locs) (cells := cells) (slots := slots) (As := bs.map (xc X)) (rest := rest.map (xc X)) (n := na) (index := idx) (g := F0 m pc ls ((bs.reverse ++ rest).map (xc X))) ⟨C.1, C.2.1, C.2.2.1, C.2.2.2.1, hts⟩ hMet
    ⟨callB_of na hts (xG_GoodIn hcode) rfl hrc hrs (hts _ hini) (hts _ hlink) ⟨hy.1, hy.2, hpar⟩ ⟨hfr, hlo⟩, hts _ hstat⟩
    ⟨xW_blind X hX μ _, fun U hU hW => ⟨rfl, xW_now C hI hU hW⟩⟩ rfl (by simp [hlen]) hls (by simp) (lv_room (by rw [xsum_xc]; exact hsum)) hdg ⟨by omega, by omega⟩
  exact xr_back hI hr0 hrun (fun H1 locs1 h => kk mc ms H1 locs1 hmc hms h)
end
end
section
/-! ONE ROW -/
-- the shapes, turned round
theorem xo1_inv {f : Int32 → XV} {k : List XV → XR} {st : List XV} {o : Option XV × XM} (h : xo1 f k st = some o) : ∃ x st', st = .inl x :: st' ∧ k (f x :: st') = some o := by
  unfold xo1 at h; split at h
  · exact ⟨_, _, rfl, h⟩
  · cases h
theorem xo1l_inv {f : Int64 → XV} {k : List XV → XR} {st : List XV} {o : Option XV × XM} (h : xo1l f k st = some o) : ∃ x st', st = .inr (.inl x) :: st' ∧ k (f x :: st') = some o := by
  unfold xo1l at h; split at h
  · exact ⟨_, _, rfl, h⟩
  · cases h
theorem xo2_inv {f : Int32 → Int32 → Int32} {k : List XV → XR} {st : List XV} {o : Option XV × XM} (h : xo2 f k st = some o) : ∃ x y st', st = .inl y :: .inl x :: st' ∧ k (xi (f x y) :: st') = some o := by
  unfold xo2 at h; split at h
  · exact ⟨_, _, _, rfl, h⟩
  · cases h
theorem xo2n_inv {f : Int32 → Int32 → Int32} {k : List XV → XR} {st : List XV} {o : Option XV × XM} (h : xo2n f k st = some o) : ∃ x y st', st = .inl y :: .inl x :: st' ∧ ¬ y = 0 ∧ k (xi (f x y) :: st') = some o := by
  unfold xo2n at h; split at h
  · split at h
    · cases h
    · exact ⟨_, _, _, rfl, by assumption, h⟩
  · cases h
theorem xo2l_inv {f : Int64 → Int64 → XV} {k : List XV → XR} {st : List XV} {o : Option XV × XM} (h : xo2l f k st = some o) : ∃ x y st', st = .inr (.inl y) :: .inr (.inl x) :: st' ∧ k (f x y :: st') = some o := by
  unfold xo2l at h; split at h
  · exact ⟨_, _, _, rfl, h⟩
  · cases h
theorem xo2ln_inv {f : Int64 → Int64 → Int64} {k : List XV → XR} {st : List XV} {o : Option XV × XM} (h : xo2ln f k st = some o) : ∃ x y st', st = .inr (.inl y) :: .inr (.inl x) :: st' ∧ ¬ y = 0 ∧ k (xl (f x y) :: st') = some o := by
  unfold xo2ln at h; split at h
  · split at h
    · cases h
    · exact ⟨_, _, _, rfl, by assumption, h⟩
  · cases h
theorem xo2s_inv {f : Int64 → Int32 → Int64} {k : List XV → XR} {st : List XV} {o : Option XV × XM} (h : xo2s f k st = some o) : ∃ x y st', st = .inl y :: .inr (.inl x) :: st' ∧ k (xl (f x y) :: st') = some o := by
  unfold xo2s at h; split at h
  · exact ⟨_, _, _, rfl, h⟩
  · cases h
theorem xldI_inv {L : XL} {a : Nat} {k : XV → XR} {o : Option XV × XM} (h : xldI L a k = some o) : ∃ x, L[a]? = some (some (xi x)) ∧ k (xi x) = some o := by
  unfold xldI at h; split at h
  · exact ⟨_, by assumption, h⟩
  · cases h
theorem xldL_inv {L : XL} {a : Nat} {k : XV → XR} {o : Option XV × XM} (h : xldL L a k = some o) : ∃ x, L[a]? = some (some (xl x)) ∧ k (xl x) = some o := by
  unfold xldL at h; split at h
  · exact ⟨_, by assumption, h⟩
  · cases h
theorem xldR_inv {L : XL} {a : Nat} {k : XV → XR} {o : Option XV × XM} (h : xldR L a k = some o) : ∃ x, L[a]? = some (some (.inr (.inr x))) ∧ k (.inr (.inr x)) = some o := by
  unfold xldR at h; split at h
  · exact ⟨_, by assumption, h⟩
  · cases h
theorem xstI_inv {L : XL} {a : Nat} {k : XL → List XV → XR} {st : List XV} {o : Option XV × XM} (h : xstI L a k st = some o) : ∃ x st', st = .inl x :: st' ∧ a < L.length ∧ k ((xdel a L).set a (some (xi x))) st' = some o := by
  unfold xstI at h; split at h
  · rename_i h1; exact ⟨_, _, rfl, (List.getElem?_eq_some_iff.mp h1).1, h⟩
  · cases h
theorem xstR_inv {L : XL} {a : Nat} {k : XL → List XV → XR} {st : List XV} {o : Option XV × XM} (h : xstR L a k st = some o) : ∃ x st', st = .inr (.inr x) :: st' ∧ a < L.length ∧ k ((xdel a L).set a (some (.inr (.inr x)))) st' = some o := by
  unfold xstR at h; split at h
  · rename_i h1; exact ⟨_, _, rfl, (List.getElem?_eq_some_iff.mp h1).1, h⟩
  · cases h
theorem xstL_inv {L : XL} {a : Nat} {k : XL → List XV → XR} {st : List XV} {o : Option XV × XM} (h : xstL L a k st = some o) : ∃ x st', st = .inr (.inl x) :: st' ∧ a + 1 < L.length ∧ k (((xdel a L).set (a + 1) none).set a (some (xl x))) st' = some o := by
  unfold xstL at h; split at h
  · rename_i h1; exact ⟨_, _, rfl, (List.getElem?_eq_some_iff.mp h1).1, h⟩
  · cases h
theorem xinc_inv {L : XL} {a : Nat} {c : Int32} {k : XL → XR} {o : Option XV × XM} (h : xinc L a c k = some o) : ∃ x, L[a]? = some (some (xi x)) ∧ k ((xdel a L).set a (some (xi (x + c)))) = some o := by
  unfold xinc at h; split at h
  · exact ⟨_, by assumption, h⟩
  · cases h
theorem xdup_inv {k : List XV → XR} {st : List XV} {o : Option XV × XM} (h : xdup k st = some o) : ∃ v st', st = v :: st' ∧ xcat v = 1 ∧ k (v :: v :: st') = some o := by
  unfold xdup at h; split at h
  · exact ⟨_, _, rfl, rfl, h⟩
  · exact ⟨_, _, rfl, rfl, h⟩
  · cases h
theorem xdup2_inv {k : List XV → XR} {st : List XV} {o : Option XV × XM} (h : xdup2 k st = some o) : ∃ v w st', st = v :: w :: st' ∧ xcat v = 1 ∧ xcat w = 1 ∧ k (v :: w :: v :: w :: st') = some o := by
  unfold xdup2 at h; split at h
  · exact ⟨_, _, _, rfl, rfl, rfl, h⟩
  · cases h
theorem xpp_inv {k : List XV → XR} {st : List XV} {o : Option XV × XM} (h : xpp k st = some o) : ∃ v st', st = v :: st' ∧ xcat v = 1 ∧ k st' = some o := by
  unfold xpp at h; split at h
  · exact ⟨_, _, rfl, rfl, h⟩
  · exact ⟨_, _, rfl, rfl, h⟩
  · cases h
theorem cond_inv {α : Type} {b : Bool} {x : Option α} {o : α} (h : (bif b then x else none) = some o) : b = true ∧ x = some o := by
  cases b
  · cases h
  · exact ⟨rfl, h⟩
-- the tables
def xln : Instr → Nat
  | .bipush _ => 2 | .iload _ => 2 | .lload _ => 2 | .aload _ => 2 | .istore _ => 2 | .lstore _ => 2 | .astore _ => 2 | .ldc _ => 2
  | .sipush _ => 3 | .ldc_w _ => 3 | .ldc2_w _ => 3 | .iinc _ _ => 3 | .ifCond _ _ => 3 | .if_icmp _ _ => 3 | .ifnull _ => 3 | .ifnonnull _ => 3 | .goto _ => 3
  | .getfield _ => 3 | .putfield _ => 3 | .invokevirtual _ => 3 | .invokestatic _ => 3 | .new _ => 3 | .tableswitch _ _ _ _ => 0 | .lookupswitch _ _ => 0
  | _ => 1
def xsb (x : Int) (y : Nat) : Bool := decide (x = (y : Int))
def xau (own : String) (nw : Bool) (fl : List (Nat × Nat × Nat)) (cl : List (Nat × Int32)) (ll : List (Nat × Int64)) (jl : List (Nat × Nat)) (pc : Nat) (ins : Instr) (a b : Nat) (c : Int32) (d : Int64) (sw : List (Int32 × Nat)) : Bool := match ins with
  | .iconst n => decide (Int32.ofInt n = c)
  | .bipush n => decide ((Int8.ofInt n).toInt32 = c)
  | .sipush n => decide ((Int16.ofInt n).toInt32 = c)
  | .ldc i => (match b with | 0 => decide ((i, c) ∈ cl) | _ + 1 => decide (a < 2) && decide ((xstrT[a]?).map (fun q => (q.1, q.2.1)) = some (own, i)))
  | .ldc_w i => decide ((i, c) ∈ cl)
  | .lconst k => decide (Int64.ofNat (k : Nat) = d)
  | .ldc2_w i => decide ((i, d) ∈ ll)
  | .iload_n k => decide ((k : Nat) = a) | .lload_n k => decide ((k : Nat) = a) | .aload_n k => decide ((k : Nat) = a)
  | .istore_n k => decide ((k : Nat) = a) | .lstore_n k => decide ((k : Nat) = a) | .astore_n k => decide ((k : Nat) = a)
  | .iload k => decide (k = a) | .lload k => decide (k = a) | .aload k => decide (k = a)
  | .istore k => decide (k = a) | .lstore k => decide (k = a) | .astore k => decide (k = a)
  | .iinc k n => decide (k = a) && decide (Int32.ofInt n = c)
  | .getfield i => decide ((i, a, b) ∈ fl)
  | .putfield i => decide ((i, a, b) ∈ fl)
  | .goto off => xsb ((pc : Int) + off) a
  | .ifCond _ off => xsb ((pc : Int) + off) a
  | .if_icmp _ off => xsb ((pc : Int) + off) a
  | .ifnull off => xsb ((pc : Int) + off) a
  | .ifnonnull off => xsb ((pc : Int) + off) a
  | .tableswitch df lo hi offs => xsb ((pc : Int) + df) a && sw.all (fun q => decide (lo ≤ q.1.toInt) && decide (q.1.toInt ≤ hi) && decide (offs[(q.1.toInt - lo).toNat]? = some ((q.2 : Int) - pc))) && (List.range (hi - lo + 1).toNat).all (fun k => sw.any (fun q => decide (q.1.toInt = lo + k)))
  | .lookupswitch df ps => xsb ((pc : Int) + df) a && (ps.toList.zip (ps.toList.drop 1)).all (fun (x, next) => decide (x.1 < next.1)) && decide (ps.toList = sw.map (fun q => (q.1.toInt, (q.2 : Int) - pc)))
  | .new _ => nw
  | .invokestatic i => (match b with | 0 => true | b' + 1 => decide ((i, b' + 1) ∈ jl))
  | .invokevirtual _ => decide (b ≠ 99)
  | _ => true
/-- the pc behind a row, if the row is as the table says -/
def xnx (own : String) (cc : ByteArray) (nw : Bool) (fl : List (Nat × Nat × Nat)) (cl : List (Nat × Int32)) (ll : List (Nat × Int64)) (jl : List (Nat × Nat)) (e : XE) : Option Nat :=
  if e.2.1 = .nop then some e.1 else
  match decode cc e.1 with
  | .ok (i, n) => bif decide (i = e.2.1) && (Nat.beq (xln i) n || Nat.beq (xln i) 0) && xau own nw fl cl ll jl e.1 e.2.1 e.2.2.1 e.2.2.2.1 e.2.2.2.2.1 e.2.2.2.2.2.1 e.2.2.2.2.2.2 then some (e.1 + n) else none
  | _ => none
def xwf (nx : XE → Option Nat) : List XE → Bool
  | [] => true
  | e :: l => (match nx e, l with | some _, [] => true | some n, e' :: _ => Nat.beq n e'.1 | none, _ => false) && xwf nx l
theorem xwf_at {nx : XE → Option Nat} : ∀ {tab pre : List XE} {e : XE} {suf : List XE}, xwf nx tab = true → tab = pre ++ e :: suf → ∃ n, nx e = some n ∧ ∀ e' suf', suf = e' :: suf' → n = e'.1 := by
  intro tab pre
  induction pre generalizing tab with
  | nil =>
    intro e suf h htab
    subst htab
    simp only [List.nil_append, xwf, Bool.and_eq_true] at h
    cases hn : nx e with
    | none => rw [hn] at h; simp at h
    | some n =>
      refine ⟨n, rfl, fun e' suf' hs => ?_⟩
      subst hs
      rw [hn] at h
      exact Nat.eq_of_beq_eq_true h.1
  | cons a pre ih =>
    intro e suf h htab
    subst htab
    simp only [List.cons_append, xwf, Bool.and_eq_true] at h
    exact ih h.2 rfl
def xtab (own : String) (cc : ByteArray) (nw : Bool) (fl : List (Nat × Nat × Nat)) (cl : List (Nat × Int32)) (ll : List (Nat × Int64)) (jl : List (Nat × Nat)) (tab : List XE) : Prop :=
  xwf (xnx own cc nw fl cl ll jl) tab = true ∧ (∀ q ∈ fl, xfl own q) ∧ (∀ q ∈ cl, Cond.constant own q.1 q.2 ∈ xG) ∧ (∀ q ∈ ll, Cond.constantLong own q.1 q.2 ∈ xG) ∧ (∀ q ∈ jl, xjd own q)
theorem xseek_at : ∀ (tab : List XE) (a : Nat), xseek a tab = [] ∨ ∃ pre e nx, tab = pre ++ e :: nx ∧ xseek a tab = e :: nx ∧ e.1 = a := by
  intro tab a
  induction tab with
  | nil => exact Or.inl rfl
  | cons e l ih =>
    have hx : xseek a (e :: l) = bif Nat.beq e.1 a then e :: l else xseek a l := rfl
    cases hb : Nat.beq e.1 a
    · rw [hb] at hx
      replace hx : xseek a (e :: l) = xseek a l := hx
      rcases ih with h | ⟨pre, e', nx, h1, h2, h3⟩
      · exact Or.inl (hx.trans h)
      · exact Or.inr ⟨e :: pre, e', nx, by rw [h1]; rfl, hx.trans h2, h3⟩
    · rw [hb] at hx
      exact Or.inr ⟨[], e, l, rfl, hx, Nat.eq_of_beq_eq_true hb⟩
theorem xfind_mem {a : Nat} {l : XN} {q : Nat × Nat × Nat × XF} (h : xfind a l = some q) : (a, q) ∈ l := by
  induction l with
  | nil => cases h
  | cons e l ih =>
    have hx : xfind a (e :: l) = bif Nat.beq e.1 a then some e.2 else xfind a l := rfl
    rw [hx] at h
    cases hb : Nat.beq e.1 a
    · rw [hb] at h
      exact List.mem_cons_of_mem _ (ih h)
    · rw [hb] at h
      replace h : some e.2 = some q := h
      have h1 := Nat.eq_of_beq_eq_true hb
      have h2 := Option.some.inj h
      rw [← h1, ← h2]
      exact List.mem_cons_self
theorem xsw_inv {K : Nat → XR} {x : Int32} {d : Nat} {sw : List (Int32 × Nat)} {o : Option XV × XM} (h : xsw K x d sw = some o) : (∃ q ∈ sw, x = q.1 ∧ K q.2 = some o) ∨ ((∀ q ∈ sw, x ≠ q.1) ∧ K d = some o) := by
  induction sw with
  | nil => exact Or.inr ⟨fun _ h => absurd h List.not_mem_nil, h⟩
  | cons a sw ih =>
    obtain ⟨v, t⟩ := a
    unfold xsw at h
    by_cases hv : x = v
    · rw [if_pos hv] at h
      exact Or.inl ⟨_, List.mem_cons_self, hv, h⟩
    · rw [if_neg hv] at h
      rcases ih h with ⟨q, h1, h2⟩ | ⟨h1, h2⟩
      · exact Or.inl ⟨q, List.mem_cons_of_mem _ h1, h2⟩
      · exact Or.inr ⟨fun q hq => (List.mem_cons.mp hq).elim (fun z => by rw [z]; exact hv) (h1 q), h2⟩
theorem xlook {pc : Nat} {x : Int32} {df : Int} : ∀ {sw : List (Int32 × Nat)} {K : Nat → XR} {d : Nat} {o : Option XV × XM}, (pc : Int) + df = (d : Int) → xsw K x d sw = some o → ∃ t : Nat, K t = some o ∧ (pc : Int) + Op.lookupswitch.offset (sw.map (fun q => (q.1.toInt, (q.2 : Int) - pc))) df x.toInt = (t : Int) := by
  intro sw
  induction sw with
  | nil => intro K d o hd h; exact ⟨d, h, by rw [← hd]; rfl⟩
  | cons a sw ih =>
    intro K d o hd h
    obtain ⟨v, t⟩ := a
    unfold xsw at h
    by_cases hv : x = v
    · rw [if_pos hv] at h
      refine ⟨t, h, ?_⟩
      subst hv
      simp [Op.lookupswitch.offset]
      omega
    · rw [if_neg hv] at h
      obtain ⟨t', h1, h2⟩ := ih hd h
      refine ⟨t', h1, ?_⟩
      rw [List.map_cons, lv_osw (k := v) hv rfl]
      exact h2
end
section
/-! ONE ROW IS SOUND; a body is sound -/
theorem xdom_kd {t i j : Nat} (h : (t, i, j + 1) ∈ xdom) : (xarr t j).1 ≤ 5 := by
  have h0 : xdom.all (fun q => match q with | (t, _, j + 1) => decide ((xarr t j).1 ≤ 5) | _ => true) = true := by decide +kernel
  exact of_decide_eq_true (List.all_eq_true.mp h0 _ h)
theorem xok_obj {a i b : Nat} {sl : Nat ⊕ (Nat → XQ)} (h : xok (xr a i 0)) (hs : (xlay a)[b]? = some sl) : (a, i, 0) ∈ xdom := by
  have ho : (a, i, 0) ∈ xdom ∨ (a, i, 0) = (13, 0, 1) ∨ (a = 15 ∧ i < 2 ∧ 0 = 0) := h
  rcases ho with ho | ho | ⟨rfl, -, -⟩
  · exact ho
  · simp at ho
  · exact absurd (xlay_lt hs) (by omega)
theorem xok_arr {t i j kd n : Nat} (h : xok (xr t i (j + 1))) (hs : xarr t j = (kd, n)) (hk : kd ≠ 8) : (t, i, j + 1) ∈ xdom := by
  have ho : (t, i, j + 1) ∈ xdom ∨ (t, i, j + 1) = (13, 0, 1) ∨ (t = 15 ∧ i < 2 ∧ j + 1 = 0) := h
  rcases ho with ho | ho | ⟨-, -, z⟩
  · exact ho
  · simp only [Prod.mk.injEq] at ho
    obtain ⟨rfl, rfl, hj⟩ := ho
    obtain rfl : j = 0 := by omega
    have : xarr 13 0 = (8, 0) := rfl
    rw [this] at hs
    cases hs
    exact absurd rfl hk
  · omega
theorem xok_scr {t i j n : Nat} (h : xok (xr t i (j + 1))) (hs : xarr t j = (8, n)) : t = 13 ∧ i = 0 ∧ j = 0 := by
  have ho : (t, i, j + 1) ∈ xdom ∨ (t, i, j + 1) = (13, 0, 1) ∨ (t = 15 ∧ i < 2 ∧ j + 1 = 0) := h
  rcases ho with ho | ho | ⟨-, -, z⟩
  · have := xdom_kd ho
    rw [hs] at this
    exact absurd this (by show ¬ 8 ≤ 5; omega)
  · simp only [Prod.mk.injEq] at ho
    omega
  · omega
def xsv (μ : XM) (a i b : Nat) (sl : Nat ⊕ (Nat → XQ)) : XV := match sl with | .inl 1 => xl (rL μ a i b) | .inl _ => xi (rI μ a i b) | .inr f => .inr (.inr (some (f i)))
theorem xsv_c (X : XP) (μ : XM) (a i b : Nat) (sl : Nat ⊕ (Nat → XQ)) : xc X (xsv μ a i b sl) = xslot X μ a i b sl := by
  rcases sl with k | f
  · rcases k with _ | _ | k <;> rfl
  · rfl
theorem xgf_inv {μ : XM} {a b : Nat} {k : List XV → XR} {st : List XV} {o : Option XV × XM} (h : xgf μ a b k st = some o) : ∃ i st' sl, st = xr a i 0 :: st' ∧ (xlay a)[b]? = some sl ∧ k (xsv μ a i b sl :: st') = some o := by
  unfold xgf at h; split at h
  · replace h := cond_inv h; obtain ⟨ht, h⟩ := h
    replace ht := Nat.eq_of_beq_eq_true ht
    subst ht
    split at h
    · rename_i h1; exact ⟨_, _, _, rfl, h1, h⟩
    · rename_i k1 h2 h1
      refine ⟨_, _, _, rfl, h1, ?_⟩
      rcases k1 with _ | _ | k1
      · exact h
      · exact absurd rfl h2
      · exact h
    · rename_i h1; exact ⟨_, _, _, rfl, h1, h⟩
    · cases h
  · cases h
theorem xpf_inv {μ : XM} {a b : Nat} {k : List XV → XM → XR} {st : List XV} {o : Option XV × XM} (h : xpf μ a b k st = some o) :
    (∃ i st' kd x, st = xi x :: xr a i 0 :: st' ∧ (xlay a)[b]? = some (.inl kd) ∧ (kd = 0 ∨ (kd = 3 ∧ (x = 0 ∨ x = 1))) ∧ k st' (sI μ a i b x) = some o) ∨ (∃ i st' x, st = xl x :: xr a i 0 :: st' ∧ (xlay a)[b]? = some (.inl 1) ∧ k st' (sL μ a i b x) = some o) := by
  unfold xpf at h; split at h
  · replace h := cond_inv h; obtain ⟨ht, h⟩ := h
    replace ht := Nat.eq_of_beq_eq_true ht
    subst ht
    split at h
    · rename_i h1; exact Or.inl ⟨_, _, _, _, rfl, h1, Or.inl rfl, h⟩
    · rename_i h1; exact Or.inr ⟨_, _, _, rfl, h1, h⟩
    · rename_i h1
      replace h := cond_inv h; obtain ⟨hb, h⟩ := h
      exact Or.inl ⟨_, _, _, _, rfl, h1, Or.inr ⟨rfl, xbl_or hb⟩, h⟩
    · cases h
  · cases h
theorem xal_inv {μ : XM} {k : List XV → XR} {st : List XV} {o : Option XV × XM} (h : xal μ k st = some o) : ∃ t i j st', st = xr t i (j + 1) :: st' ∧ ((∃ n, xarr t j = (8, n) ∧ k (xi (rI μ t i j) :: st') = some o) ∨ (∃ kd n, xarr t j = (kd, n) ∧ kd ≠ 8 ∧ k (xi (nI n) :: st') = some o)) := by
  unfold xal at h; split at h
  · refine ⟨_, _, _, _, rfl, ?_⟩
    split at h
    · rename_i h1; exact Or.inl ⟨_, h1, h⟩
    · cases h
    · rename_i kd n h2 h3 h1
      exact Or.inr ⟨_, _, h1, fun z => h2 z, h⟩
  · cases h
theorem xga_inv {μ : XM} {kind : Nat} {k : List XV → XR} {st : List XV} {o : Option XV × XM} (h : xga μ kind k st = some o) : ∃ x t i j st', st = xi x :: xr t i (j + 1) :: st' ∧ k (xi (aI μ t i j x.toNatClampNeg) :: st') = some o ∧ ((∃ n, xarr t j = (8, n) ∧ kind = 0 ∧ xin x (rI μ t i j).toNatClampNeg = true) ∨ (∃ n, xarr t j = (kind, n) ∧ kind ≠ 8 ∧ xin x n = true)) := by
  unfold xga at h; split at h
  · refine ⟨_, _, _, _, _, rfl, ?_⟩
    split at h
    · rename_i h1
      replace h := cond_inv h; obtain ⟨hb, h⟩ := h
      rw [Bool.and_eq_true] at hb
      exact ⟨h, Or.inl ⟨_, h1, Nat.eq_of_beq_eq_true hb.2, hb.1⟩⟩
    · rename_i kd n h2 h1
      replace h := cond_inv h; obtain ⟨hb, h⟩ := h
      replace h := cond_inv h; obtain ⟨hb2, h⟩ := h
      replace hb := Nat.eq_of_beq_eq_true hb
      subst hb
      exact ⟨h, Or.inr ⟨_, h1, fun z => h2 z, hb2⟩⟩
  · cases h
theorem xgl_inv {μ : XM} {k : List XV → XR} {st : List XV} {o : Option XV × XM} (h : xgl μ k st = some o) : ∃ x t i j st' n, st = xi x :: xr t i (j + 1) :: st' ∧ xarr t j = (1, n) ∧ xin x n = true ∧ k (xl (aL μ t i j x.toNatClampNeg) :: st') = some o := by
  unfold xgl at h; split at h
  · split at h
    rename_i h1
    replace h := cond_inv h; obtain ⟨hb, h⟩ := h
    replace h := cond_inv h; obtain ⟨hb2, h⟩ := h
    replace hb := Nat.eq_of_beq_eq_true hb
    subst hb
    exact ⟨_, _, _, _, _, _, rfl, h1, hb2, h⟩
  · cases h
theorem xgr_inv {k : List XV → XR} {st : List XV} {o : Option XV × XM} (h : xgr k st = some o) : ∃ x t i j st' kd n, st = xi x :: xr t i (j + 1) :: st' ∧ xarr t j = (kd, n) ∧ (kd = 4 ∨ kd = 5) ∧ xin x n = true ∧ k (.inr (.inr (some (xrow kd x.toNatClampNeg))) :: st') = some o := by
  unfold xgr at h; split at h
  · split at h
    rename_i h1
    replace h := cond_inv h; obtain ⟨hb, h⟩ := h
    replace h := cond_inv h; obtain ⟨hb2, h⟩ := h
    rw [Bool.or_eq_true] at hb
    exact ⟨_, _, _, _, _, _, _, rfl, h1, hb.imp Nat.eq_of_beq_eq_true Nat.eq_of_beq_eq_true, hb2, h⟩
  · cases h
theorem xpa_inv {μ : XM} {kind : Nat} {f : Int32 → Int32} {ok : Int32 → Bool} {k : List XV → XM → XR} {st : List XV} {o : Option XV × XM} (h : xpa μ kind f ok k st = some o) : ∃ v x t i j st' n, st = xi v :: xi x :: xr t i (j + 1) :: st' ∧ xarr t j = (kind, n) ∧ xin x n = true ∧ ok v = true ∧ k st' (pI μ t i j x.toNatClampNeg (f v)) = some o := by
  unfold xpa at h; split at h
  · split at h
    rename_i h1
    replace h := cond_inv h; obtain ⟨hb, h⟩ := h
    replace h := cond_inv h; obtain ⟨hb2, h⟩ := h
    replace hb := Nat.eq_of_beq_eq_true hb
    subst hb
    rw [Bool.and_eq_true] at hb2
    exact ⟨_, _, _, _, _, _, _, rfl, h1, hb2.1, hb2.2, h⟩
  · cases h
theorem xpl_inv {μ : XM} {k : List XV → XM → XR} {st : List XV} {o : Option XV × XM} (h : xpl μ k st = some o) : ∃ v x t i j st' n, st = xl v :: xi x :: xr t i (j + 1) :: st' ∧ xarr t j = (1, n) ∧ xin x n = true ∧ k st' (pL μ t i j x.toNatClampNeg v) = some o := by
  unfold xpl at h; split at h
  · split at h
    rename_i h1
    replace h := cond_inv h; obtain ⟨hb, h⟩ := h
    replace h := cond_inv h; obtain ⟨hb2, h⟩ := h
    replace hb := Nat.eq_of_beq_eq_true hb
    subst hb
    exact ⟨_, _, _, _, _, _, _, rfl, h1, hb2, h⟩
  · cases h
theorem xcp_inv {μ : XM} {k : List XV → XM → XR} {st : List XV} {o : Option XV × XM} (h : xcp μ k st = some o) : ∃ n dp t1 i1 j1 sp t0 i0 j0 st' n0 n1, st = xi n :: xi dp :: xr t1 i1 (j1 + 1) :: xi sp :: xr t0 i0 (j0 + 1) :: st' ∧ xcpok sp dp n n0 n1 = true ∧
    ((xarr t0 j0 = (0, n0) ∧ xarr t1 j1 = (0, n1) ∧ k st' (wI μ t1 i1 j1 (va_cpy (aI μ t0 i0 j0) (aI μ t1 i1 j1) sp.toNatClampNeg dp.toNatClampNeg n.toNatClampNeg)) = some o) ∨ (xarr t0 j0 = (1, n0) ∧ xarr t1 j1 = (1, n1) ∧ k st' (wL μ t1 i1 j1 (va_cpy (aL μ t0 i0 j0) (aL μ t1 i1 j1) sp.toNatClampNeg dp.toNatClampNeg n.toNatClampNeg)) = some o)) := by
  unfold xcp at h; split at h
  · split at h
    · rename_i h1 h2
      replace h := cond_inv h; obtain ⟨hb, h⟩ := h
      exact ⟨_, _, _, _, _, _, _, _, _, _, _, _, rfl, hb, Or.inl ⟨h1, h2, h⟩⟩
    · rename_i h1 h2
      replace h := cond_inv h; obtain ⟨hb, h⟩ := h
      exact ⟨_, _, _, _, _, _, _, _, _, _, _, _, rfl, hb, Or.inr ⟨h1, h2, h⟩⟩
    · cases h
  · cases h
theorem xca_inv {env : XN} {idx a tg : Nat} {μ : XM} {as rest : List XV} {k : List XV → XM → XR} {o : Option XV × XM} (h : xca env idx a tg μ as rest k = some o) : xsum rest ≤ 8 ∧ ∃ rk F r μ', (idx, rk, a, tg, F) ∈ env ∧ F as μ = some (r, μ') ∧ (∀ q, r ≠ some (.inr (.inr q))) ∧ k (r.toList ++ rest) μ' = some o := by
  unfold xca at h
  replace h := cond_inv h; obtain ⟨hb, h⟩ := h
  refine ⟨Nat.le_of_ble_eq_true hb, ?_⟩
  split at h
  · rename_i rk na tg' F hf
    replace h := cond_inv h; obtain ⟨hb2, h⟩ := h
    rw [Bool.and_eq_true] at hb2
    have e1 := Nat.eq_of_beq_eq_true hb2.1
    have e2 := Nat.eq_of_beq_eq_true hb2.2
    subst e1; subst e2
    have hm := xfind_mem hf
    split at h
    · unfold bV at h; split at h
      · rename_i he; exact ⟨_, _, _, _, hm, he, (fun q z => by cases z), h⟩
      · cases h
    · unfold bI at h; split at h
      · rename_i he; exact ⟨_, _, _, _, hm, he, (fun q z => by cases z), h⟩
      · cases h
    · unfold bL at h; split at h
      · rename_i he; exact ⟨_, _, _, _, hm, he, (fun q z => by cases z), h⟩
      · cases h
    · cases h
  · cases h
def xbd (capc caps ac as w cells slots : Nat) : Prop := cells + w * ac ≤ capc ∧ slots + w * as ≤ caps
theorem xbd_dec {capc caps ac as w cells slots : Nat} (h : xbd capc caps ac as (w + 1) cells slots) : xbd capc caps ac as w cells slots := by
  obtain ⟨h1, h2⟩ := h
  rw [Nat.succ_mul] at h1 h2
  exact ⟨by omega, by omega⟩
theorem xbd_call {capc caps ac as w cells slots mc ms : Nat} (h : xbd capc caps ac as (w + 1) cells slots) (h3 : mc ≤ ac) (h4 : ms ≤ as) : xbd capc caps ac as w (cells + mc) (slots + ms) := by
  obtain ⟨h1, h2⟩ := h
  rw [Nat.succ_mul] at h1 h2
  exact ⟨by omega, by omega⟩
theorem xbd_now {capc caps ac as w cells slots : Nat} (h : xbd capc caps ac as (w + 1) cells slots) : cells + ac ≤ capc ∧ slots + as ≤ caps := by
  obtain ⟨h1, h2⟩ := h
  rw [Nat.succ_mul] at h1 h2
  exact ⟨by omega, by omega⟩
theorem xbd_le {capc caps ac as w w' cells slots : Nat} (h : xbd capc caps ac as w cells slots) (hw : w' ≤ w) : xbd capc caps ac as w' cells slots :=
  ⟨Nat.le_trans (Nat.add_le_add_left (Nat.mul_le_mul_right _ hw) _) h.1, Nat.le_trans (Nat.add_le_add_left (Nat.mul_le_mul_right _ hw) _) h.2⟩
theorem xbd_0 {capc caps ac as w cells slots : Nat} (h : xbd capc caps ac as w cells slots) : cells ≤ capc ∧ slots ≤ caps :=
  ⟨Nat.le_trans (Nat.le_add_right _ _) h.1, Nat.le_trans (Nat.le_add_right _ _) h.2⟩
theorem okc {v : XV} {st : List XV} (h : xok v) (hs : ∀ w ∈ st, xok w) : ∀ w ∈ v :: st, xok w := List.forall_mem_cons.mpr ⟨h, hs⟩
theorem okt {v : XV} {st : List XV} (hs : ∀ w ∈ v :: st, xok w) : ∀ w ∈ st, xok w := (List.forall_mem_cons.mp hs).2
theorem okh {v : XV} {st : List XV} (hs : ∀ w ∈ v :: st, xok w) : xok v := (List.forall_mem_cons.mp hs).1
/-- a method's ends -/
def XFin (p : Program) (l : Launch) (e : Env) (R : Room) (s : State) (m : MethodId) (args : Array Value) (below : List Frame) (meth : Method) (c : Code) (Z : State → Prop) (cc : ByteArray) (X : XP) (nw : Bool) (rt capc caps : Nat) (r : Option XV) (μr : XM) : Prop :=
  ∀ (H : Heap) (locs : List Loc) (cells slots pc : Nat) (ls : Array Slot), ls.size = c.maxLocals → XI X s μr H locs → cells ≤ capc → slots ≤ caps →
    (rt = 0 → r = none → decode cc pc = .ok (.return_, 1) → W p l e R s m args below meth c H locs cells slots Z (F0 m pc ls [])) ∧
    (∀ x, r = some (xi x) → (rt = 1 ∨ (rt = 2 ∧ (x = 0 ∨ x = 1)) ∨ (rt = 3 ∧ vp_nar .char x = x)) → decode cc pc = .ok (.ireturn, 1) → W p l e R s m args below meth c H locs cells slots Z (F0 m pc ls [.int x])) ∧
    (∀ x, rt = 4 → r = some (xl x) → decode cc pc = .ok (.lreturn, 1) → W p l e R s m args below meth c H locs cells slots Z (F0 m pc ls [.long x])) ∧
    (∀ idx st, nw = true → r = some (xr 99 0 0) → decode cc pc = .ok (.new idx, 3) → W p l e R s m args below meth c H locs cells slots Z (F0 m pc ls st))
end
section
set_option maxHeartbeats 4000000 in
theorem xs_step {p : Program} {l : Launch} {e : Env} {R : Room} {s : State} {m : MethodId} {args : Array Value} {below : List Frame} {meth : Method} {c : Code} {Z : State → Prop} {cc : ByteArray} {own : String} {X : XP} {nL : Nat}
    (C : XCt X p R s m args c cc own nL) {tab : List XE} {env : XN} {rt : Nat} {nw : Bool} {fl : List (Nat × Nat × Nat)} {cl : List (Nat × Int32)} {ll : List (Nat × Int64)} {jl : List (Nat × Nat)} (hT : xtab own cc nw fl cl ll jl tab)
    {ac as capc caps : Nat} (hE : ∀ q ∈ env, xcal X l R own ac as q) (hcap : capc ≤ R.cells ∧ caps ≤ R.slots) {r : Option XV} {μr : XM}
    (hF : XFin p l e R s m args below meth c Z cc X nw rt capc caps r μr) {A : Nat → XL → List XV → XM → XR} {rec : XK} {w wA : Nat} (hwA : wA ≤ w)
    (hA : ∀ h L st μ H locs cells slots ls, A h L st μ = some (r, μr) → XI X s μ H locs → xloc X ls nL L → (∀ v ∈ st, xok v) → xbd capc caps ac as wA cells slots → W p l e R s m args below meth c H locs cells slots Z (F0 m h ls (st.map (xc X))))
    (hnil : ∀ L st μ, rec [] L st μ = none)
    (hrec : ∀ (e' : XE) (nx pre : List XE), tab = pre ++ e' :: nx → ∀ L st μ H locs cells slots ls, rec (e' :: nx) L st μ = some (r, μr) → XI X s μ H locs → xloc X ls nL L → (∀ v ∈ st, xok v) → xbd capc caps ac as w cells slots → W p l e R s m args below meth c H locs cells slots Z (F0 m e'.1 ls (st.map (xc X))))
    {e0 : XE} {nx pre : List XE} (htab : tab = pre ++ e0 :: nx) {L : XL} {st : List XV} {μ : XM} {H : Heap} {locs : List Loc} {cells slots : Nat} {ls : Array Slot} (h : xstep A tab env rt rec (e0 :: nx) L st μ = some (r, μr)) (hI : XI X s μ H locs) (hL : xloc X ls nL L) (hst : ∀ v ∈ st, xok v) (hbd : xbd capc caps ac as (w + 1) cells slots) :
    W p l e R s m args below meth c H locs cells slots Z (F0 m e0.1 ls (st.map (xc X))) := by
  obtain ⟨pc, ins, a, b, c0, d, sw⟩ := e0
  have hls : ls.size = nL := hL.1.1
  have hb := xbd_dec hbd
  obtain ⟨n1, hn1, hnx⟩ := xwf_at hT.1 htab
  have hnext : ∀ {n : Nat}, pc + n = n1 → ∀ {L' : XL} {st' : List XV} {μ' : XM} {H' : Heap} {locs' : List Loc} {cells' slots' : Nat} {ls' : Array Slot}, rec nx L' st' μ' = some (r, μr) → XI X s μ' H' locs' → xloc X ls' nL L' → (∀ v ∈ st', xok v) → xbd capc caps ac as w cells' slots' → W p l e R s m args below meth c H' locs' cells' slots' Z (F0 m (pc + n) ls' (st'.map (xc X))) := by
    intro n hn L' st' μ' H' locs' cells' slots' ls' h1 h2 h3 h4 h5
    cases nx with
    | nil => rw [hnil] at h1; cases h1
    | cons e' nx' =>
      rw [hn, hnx e' nx' rfl]
      exact hrec e' nx' (pre ++ [(pc, ins, a, b, c0, d, sw)]) (by rw [htab]; simp) _ _ _ _ _ _ _ _ h1 h2 h3 h4 h5
  have hjump : ∀ {t : Nat} {L' : XL} {st' : List XV} {μ' : XM} {H' : Heap} {locs' : List Loc} {cells' slots' : Nat} {ls' : Array Slot}, rec (xseek t tab) L' st' μ' = some (r, μr) → XI X s μ' H' locs' → xloc X ls' nL L' → (∀ v ∈ st', xok v) → xbd capc caps ac as w cells' slots' → W p l e R s m args below meth c H' locs' cells' slots' Z (F0 m t ls' (st'.map (xc X))) := by
    intro t L' st' μ' H' locs' cells' slots' ls' h1 h2 h3 h4 h5
    rcases xseek_at tab t with h6 | ⟨pre', e', nx', h6, h7, h8⟩
    · rw [h6, hnil] at h1; cases h1
    · rw [h7] at h1
      rw [← h8]
      exact hrec e' nx' pre' h6 _ _ _ _ _ _ _ _ h1 h2 h3 h4 h5
  by_cases hnop : ins = .nop
  · subst hnop
    simp only [xstep] at h
    exact hA pc _ st μ H locs cells slots ls h hI (xloc_mask a hL) hst (xbd_le hb hwA)
  obtain ⟨n, hd, hln, hau, hnn⟩ : ∃ n, decode cc pc = .ok (ins, n) ∧ (xln ins = n ∨ xln ins = 0) ∧ xau own nw fl cl ll jl pc ins a b c0 d sw = true ∧ pc + n = n1 := by
    unfold xnx at hn1
    rw [if_neg hnop] at hn1
    cases hd : decode cc pc with
    | error z => rw [hd] at hn1; cases hn1
    | ok z =>
      obtain ⟨i, n⟩ := z
      rw [hd] at hn1
      replace hn1 := cond_inv hn1
      obtain ⟨h1, h2⟩ := hn1
      rw [Bool.and_eq_true, Bool.and_eq_true, Bool.or_eq_true] at h1
      have e1 := of_decide_eq_true h1.1.1
      dsimp only at e1 h2
      subst e1
      exact ⟨n, rfl, h1.1.2.imp Nat.eq_of_beq_eq_true Nat.eq_of_beq_eq_true, h1.2, Option.some.inj h2⟩
  have hx := C.1
  have hbb := C.2.1
  have hml := C.2.2.1
  have hown := C.2.2.2.1
  have hts := C.2.2.2.2.1
  have hfr : 1 ≤ R.frames := C.2.2.2.2.2.2.2.2.1
  have hlo : 100 ≤ R.locals := C.2.2.2.2.2.2.2.2.2
  have hmls : c.maxLocals = ls.size := by rw [hml, hls]
  have hnL : L.length = nL := hL.2.1
  have hcr : cells ≤ R.cells ∧ slots ≤ R.slots := ⟨Nat.le_trans (xbd_0 hbd).1 hcap.1, Nat.le_trans (xbd_0 hbd).2 hcap.2⟩
  have hcw : cells + ac ≤ R.cells ∧ slots + as ≤ R.slots := ⟨Nat.le_trans (xbd_now hbd).1 hcap.1, Nat.le_trans (xbd_now hbd).2 hcap.2⟩
  cases ins with
  | iconst n0 => obtain rfl : n = 1 := by simp only [xln] at hln; omega
                 simp only [xstep] at h; exact lv_iconst hx hbb hd (of_decide_eq_true hau) (hnext hnn h hI hL (okc trivial hst) hb)
  | bipush n0 => obtain rfl : n = 2 := by simp only [xln] at hln; omega
                 simp only [xstep] at h; exact lv_bipush hx hbb hd (of_decide_eq_true hau) (hnext hnn h hI hL (okc trivial hst) hb)
  | sipush n0 => obtain rfl : n = 3 := by simp only [xln] at hln; omega
                 simp only [xstep] at h; exact lv_sipush hx hbb hd (of_decide_eq_true hau) (hnext hnn h hI hL (okc trivial hst) hb)
  | ldc i0 =>
    obtain rfl : n = 2 := by simp only [xln] at hln; omega
    cases b with
    | zero => exact lv_ldc hx hbb hown (hts _ (hT.2.2.1 _ (of_decide_eq_true hau))) hd (hnext hnn h hI hL (okc trivial hst) hb)
    | succ b =>
      simp only [xau, Bool.and_eq_true, decide_eq_true_eq] at hau
      obtain ⟨ha, hau⟩ := hau
      cases hq : xstrT[a]? with
      | none => rw [hq] at hau; cases hau
      | some q =>
        rw [hq] at hau
        simp only [Option.map_some, Option.some.injEq, Prod.mk.injEq] at hau
        have hv := C.2.2.2.2.2.2.2.1.2.2.2.2.2.1 s s.heap a q C.2.2.2.2.2.2.1 hq
        rw [hau.1, hau.2] at hv
        exact va_ldcS hx hbb hown hv hd (hnext hnn h hI hL (okc (Or.inr (Or.inr ⟨rfl, ha, rfl⟩)) hst) hb)
  | ldc_w i0 => obtain rfl : n = 3 := by simp only [xln] at hln; omega
                simp only [xstep] at h; exact lv_ldcw hx hbb hown (hts _ (hT.2.2.1 _ (of_decide_eq_true hau))) hd (hnext hnn h hI hL (okc trivial hst) hb)
  | lconst k0 => obtain rfl : n = 1 := by simp only [xln] at hln; omega
                 simp only [xstep] at h; exact lv_lconst hx hbb hd (of_decide_eq_true hau) (hnext hnn h hI hL (okc trivial hst) hb)
  | ldc2_w i0 => obtain rfl : n = 3 := by simp only [xln] at hln; omega
                 simp only [xstep] at h; exact lv_ldc2 hx hbb hown (hts _ (hT.2.2.2.1 _ (of_decide_eq_true hau))) hd (hnext hnn h hI hL (okc trivial hst) hb)
  | aconst_null => obtain rfl : n = 1 := by simp only [xln] at hln; omega
                   simp only [xstep] at h; exact lv_null hx hbb hd (hnext hnn h hI hL (okc trivial hst) hb)
  | iload_n k0 => obtain rfl : n = 1 := by simp only [xln] at hln; omega
                  simp only [xstep] at h; obtain ⟨x, h1, h⟩ := xldI_inv h
                  exact lv_iload_n hx hbb hd (of_decide_eq_true hau) (xloc_get hL h1) (hnext hnn h hI hL (okc trivial hst) hb)
  | iload k0 => obtain rfl : n = 2 := by simp only [xln] at hln; omega
                obtain rfl : k0 = a := of_decide_eq_true hau
                simp only [xstep] at h; obtain ⟨x, h1, h⟩ := xldI_inv h
                exact lv_iload hx hbb hd (xloc_get hL h1) (hnext hnn h hI hL (okc trivial hst) hb)
  | lload_n k0 => obtain rfl : n = 1 := by simp only [xln] at hln; omega
                  simp only [xstep] at h; obtain ⟨x, h1, h⟩ := xldL_inv h
                  exact lv_lload_n hx hbb hd (of_decide_eq_true hau) (xloc_get hL h1) (hnext hnn h hI hL (okc trivial hst) hb)
  | lload k0 => obtain rfl : n = 2 := by simp only [xln] at hln; omega
                obtain rfl : k0 = a := of_decide_eq_true hau
                simp only [xstep] at h; obtain ⟨x, h1, h⟩ := xldL_inv h
                exact lv_lload hx hbb hd (xloc_get hL h1) (hnext hnn h hI hL (okc trivial hst) hb)
  | aload_n k0 => obtain rfl : n = 1 := by simp only [xln] at hln; omega
                  simp only [xstep] at h; obtain ⟨x, h1, h⟩ := xldR_inv h
                  rcases x with _ | q
                  · exact lv_aload_nN hx hbb hd (of_decide_eq_true hau) (xloc_get hL h1) (hnext hnn h hI hL (okc trivial hst) hb)
                  · exact lv_aload_n hx hbb hd (of_decide_eq_true hau) (xloc_get hL h1) (hnext hnn h hI hL (okc (xloc_ok hL h1) hst) hb)
  | aload k0 => obtain rfl : n = 2 := by simp only [xln] at hln; omega
                obtain rfl : k0 = a := of_decide_eq_true hau
                simp only [xstep] at h; obtain ⟨x, h1, h⟩ := xldR_inv h
                rcases x with _ | q
                · exact lv_aloadN hx hbb hd (xloc_get hL h1) (hnext hnn h hI hL (okc trivial hst) hb)
                · exact lv_aload hx hbb hd (xloc_get hL h1) (hnext hnn h hI hL (okc (xloc_ok hL h1) hst) hb)
  | istore_n k0 => obtain rfl : n = 1 := by simp only [xln] at hln; omega
                   simp only [xstep] at h; obtain ⟨x, st', rfl, h1, h⟩ := xstI_inv h
                   rw [hnL] at h1
                   exact lv_istore_n hx hbb hd (of_decide_eq_true hau) hL.1 h1 rfl (fun ls' h2 => hnext hnn h hI (xloc_st1 (v := xi x) hL h1 trivial h2) (okt hst) hb)
  | istore k0 => obtain rfl : n = 2 := by simp only [xln] at hln; omega
                 simp only [xstep] at h; obtain ⟨x, st', rfl, h1, h⟩ := xstI_inv h
                 obtain rfl : k0 = a := of_decide_eq_true hau
                 rw [hnL] at h1
                 exact lv_istore hx hbb hd hL.1 h1 rfl (fun ls' h2 => hnext hnn h hI (xloc_st1 (v := xi x) hL h1 trivial h2) (okt hst) hb)
  | lstore_n k0 => obtain rfl : n = 1 := by simp only [xln] at hln; omega
                   simp only [xstep] at h; obtain ⟨x, st', rfl, h1, h⟩ := xstL_inv h
                   rw [hnL] at h1
                   exact lv_lstore_n hx hbb hd (of_decide_eq_true hau) hL.1 h1 rfl (fun ls' h2 => hnext hnn h hI (xloc_st2 (v := xl x) hL h1 trivial h2) (okt hst) hb)
  | lstore k0 => obtain rfl : n = 2 := by simp only [xln] at hln; omega
                 simp only [xstep] at h; obtain ⟨x, st', rfl, h1, h⟩ := xstL_inv h
                 obtain rfl : k0 = a := of_decide_eq_true hau
                 rw [hnL] at h1
                 exact lv_lstore hx hbb hd hL.1 h1 rfl (fun ls' h2 => hnext hnn h hI (xloc_st2 (v := xl x) hL h1 trivial h2) (okt hst) hb)
  | astore_n k0 => obtain rfl : n = 1 := by simp only [xln] at hln; omega
                   simp only [xstep] at h; obtain ⟨x, st', rfl, h1, h⟩ := xstR_inv h
                   rw [hnL] at h1
                   rcases x with _ | q
                   · exact lv_astore_nN hx hbb hd (of_decide_eq_true hau) hL.1 h1 rfl (fun ls' h2 => hnext hnn h hI (xloc_st1 (v := xn) hL h1 trivial h2) (okt hst) hb)
                   · exact lv_astore_n hx hbb hd (of_decide_eq_true hau) hL.1 h1 rfl (fun ls' h2 => hnext hnn h hI (xloc_st1 (v := .inr (.inr (some q))) hL h1 (okh hst) h2) (okt hst) hb)
  | astore k0 => obtain rfl : n = 2 := by simp only [xln] at hln; omega
                 simp only [xstep] at h; obtain ⟨x, st', rfl, h1, h⟩ := xstR_inv h
                 obtain rfl : k0 = a := of_decide_eq_true hau
                 rw [hnL] at h1
                 rcases x with _ | q
                 · exact lv_astoreN hx hbb hd hL.1 h1 rfl (fun ls' h2 => hnext hnn h hI (xloc_st1 (v := xn) hL h1 trivial h2) (okt hst) hb)
                 · exact lv_astore hx hbb hd hL.1 h1 rfl (fun ls' h2 => hnext hnn h hI (xloc_st1 (v := .inr (.inr (some q))) hL h1 (okh hst) h2) (okt hst) hb)
  | iinc k0 n0 => obtain rfl : n = 3 := by simp only [xln] at hln; omega
                  simp only [xstep] at h; obtain ⟨x, h1, h⟩ := xinc_inv h
                  simp only [xau, Bool.and_eq_true, decide_eq_true_eq] at hau
                  obtain ⟨rfl, hc0⟩ := hau
                  have ha : k0 < nL := by rw [← hnL]; exact (List.getElem?_eq_some_iff.mp h1).1
                  have hm : (k0, Value.int x) ∈ xlv X 0 L := (xlv_iff X L k0 _).mpr ⟨xi x, h1, rfl⟩
                  obtain ⟨kk, hkk⟩ := List.mem_iff_getElem?.mp hm
                  exact lv_iinc (v := x + c0) hx hbb hd hL.1 hkk (by rw [hc0]) ha rfl (fun ls' h2 => hnext hnn h hI (xloc_st1 (v := xi (x + c0)) hL ha trivial h2) hst hb)
  | iadd => obtain rfl : n = 1 := by simp only [xln] at hln; omega
            simp only [xstep] at h; obtain ⟨x, y, st', rfl, h⟩ := xo2_inv h; exact lv_iadd hx hbb hd (hnext hnn h hI hL (okc trivial (okt (okt hst))) hb)
  | isub => obtain rfl : n = 1 := by simp only [xln] at hln; omega
            simp only [xstep] at h; obtain ⟨x, y, st', rfl, h⟩ := xo2_inv h; exact lv_isub hx hbb hd (hnext hnn h hI hL (okc trivial (okt (okt hst))) hb)
  | imul => obtain rfl : n = 1 := by simp only [xln] at hln; omega
            simp only [xstep] at h; obtain ⟨x, y, st', rfl, h⟩ := xo2_inv h; exact lv_imul hx hbb hd (hnext hnn h hI hL (okc trivial (okt (okt hst))) hb)
  | iand => obtain rfl : n = 1 := by simp only [xln] at hln; omega
            simp only [xstep] at h; obtain ⟨x, y, st', rfl, h⟩ := xo2_inv h; exact lv_iand hx hbb hd (hnext hnn h hI hL (okc trivial (okt (okt hst))) hb)
  | ior => obtain rfl : n = 1 := by simp only [xln] at hln; omega
           simp only [xstep] at h; obtain ⟨x, y, st', rfl, h⟩ := xo2_inv h; exact lv_ior hx hbb hd (hnext hnn h hI hL (okc trivial (okt (okt hst))) hb)
  | ixor => obtain rfl : n = 1 := by simp only [xln] at hln; omega
            simp only [xstep] at h; obtain ⟨x, y, st', rfl, h⟩ := xo2_inv h; exact lv_ixor hx hbb hd (hnext hnn h hI hL (okc trivial (okt (okt hst))) hb)
  | ishl => obtain rfl : n = 1 := by simp only [xln] at hln; omega
            simp only [xstep] at h; obtain ⟨x, y, st', rfl, h⟩ := xo2_inv h; exact lv_ishl hx hbb hd (hnext hnn h hI hL (okc trivial (okt (okt hst))) hb)
  | ishr => obtain rfl : n = 1 := by simp only [xln] at hln; omega
            simp only [xstep] at h; obtain ⟨x, y, st', rfl, h⟩ := xo2_inv h; exact lv_ishr hx hbb hd (hnext hnn h hI hL (okc trivial (okt (okt hst))) hb)
  | iushr => obtain rfl : n = 1 := by simp only [xln] at hln; omega
             simp only [xstep] at h; obtain ⟨x, y, st', rfl, h⟩ := xo2_inv h; exact lv_iushr hx hbb hd rfl (hnext hnn h hI hL (okc trivial (okt (okt hst))) hb)
  | idiv => obtain rfl : n = 1 := by simp only [xln] at hln; omega
            simp only [xstep] at h; obtain ⟨x, y, st', rfl, hy, h⟩ := xo2n_inv h; exact lv_idiv hx hbb hd hy (hnext hnn h hI hL (okc trivial (okt (okt hst))) hb)
  | irem => obtain rfl : n = 1 := by simp only [xln] at hln; omega
            simp only [xstep] at h; obtain ⟨x, y, st', rfl, hy, h⟩ := xo2n_inv h; exact lv_irem hx hbb hd hy (hnext hnn h hI hL (okc trivial (okt (okt hst))) hb)
  | ineg => obtain rfl : n = 1 := by simp only [xln] at hln; omega
            simp only [xstep] at h; obtain ⟨x, st', rfl, h⟩ := xo1_inv h; exact lv_ineg hx hbb hd (hnext hnn h hI hL (okc trivial (okt hst)) hb)
  | i2l => obtain rfl : n = 1 := by simp only [xln] at hln; omega
           simp only [xstep] at h; obtain ⟨x, st', rfl, h⟩ := xo1_inv h; exact lv_i2l hx hbb hd rfl (hnext hnn h hI hL (okc trivial (okt hst)) hb)
  | i2c => obtain rfl : n = 1 := by simp only [xln] at hln; omega
           simp only [xstep] at h; obtain ⟨x, st', rfl, h⟩ := xo1_inv h; exact lv_i2c hx hbb hd rfl (hnext hnn h hI hL (okc trivial (okt hst)) hb)
  | l2i => obtain rfl : n = 1 := by simp only [xln] at hln; omega
           simp only [xstep] at h; obtain ⟨x, st', rfl, h⟩ := xo1l_inv h; exact lv_l2i hx hbb hd rfl (hnext hnn h hI hL (okc trivial (okt hst)) hb)
  | ladd => obtain rfl : n = 1 := by simp only [xln] at hln; omega
            simp only [xstep] at h; obtain ⟨x, y, st', rfl, h⟩ := xo2l_inv h; exact lv_ladd hx hbb hd (hnext hnn h hI hL (okc trivial (okt (okt hst))) hb)
  | lsub => obtain rfl : n = 1 := by simp only [xln] at hln; omega
            simp only [xstep] at h; obtain ⟨x, y, st', rfl, h⟩ := xo2l_inv h; exact lv_lsub hx hbb hd (hnext hnn h hI hL (okc trivial (okt (okt hst))) hb)
  | lmul => obtain rfl : n = 1 := by simp only [xln] at hln; omega
            simp only [xstep] at h; obtain ⟨x, y, st', rfl, h⟩ := xo2l_inv h; exact lv_lmul hx hbb hd (hnext hnn h hI hL (okc trivial (okt (okt hst))) hb)
  | land => obtain rfl : n = 1 := by simp only [xln] at hln; omega
            simp only [xstep] at h; obtain ⟨x, y, st', rfl, h⟩ := xo2l_inv h; exact lv_land hx hbb hd (hnext hnn h hI hL (okc trivial (okt (okt hst))) hb)
  | lor => obtain rfl : n = 1 := by simp only [xln] at hln; omega
           simp only [xstep] at h; obtain ⟨x, y, st', rfl, h⟩ := xo2l_inv h; exact lv_lor hx hbb hd (hnext hnn h hI hL (okc trivial (okt (okt hst))) hb)
  | lcmp => obtain rfl : n = 1 := by simp only [xln] at hln; omega
            simp only [xstep] at h; obtain ⟨x, y, st', rfl, h⟩ := xo2l_inv h; exact W.lcmp hx hbb hd (hnext hnn h hI hL (okc trivial (okt (okt hst))) hb)
  | ldiv => obtain rfl : n = 1 := by simp only [xln] at hln; omega
            simp only [xstep] at h; obtain ⟨x, y, st', rfl, hy, h⟩ := xo2ln_inv h; exact lv_ldiv hx hbb hd hy (hnext hnn h hI hL (okc trivial (okt (okt hst))) hb)
  | lrem => obtain rfl : n = 1 := by simp only [xln] at hln; omega
            simp only [xstep] at h; obtain ⟨x, y, st', rfl, hy, h⟩ := xo2ln_inv h; exact lv_lrem hx hbb hd hy (hnext hnn h hI hL (okc trivial (okt (okt hst))) hb)
  | lshl => obtain rfl : n = 1 := by simp only [xln] at hln; omega
            simp only [xstep] at h; obtain ⟨x, y, st', rfl, h⟩ := xo2s_inv h; exact lv_lshl hx hbb hd rfl (hnext hnn h hI hL (okc trivial (okt (okt hst))) hb)
  | lshr => obtain rfl : n = 1 := by simp only [xln] at hln; omega
            simp only [xstep] at h; obtain ⟨x, y, st', rfl, h⟩ := xo2s_inv h; exact lv_lshr hx hbb hd rfl (hnext hnn h hI hL (okc trivial (okt (okt hst))) hb)
  | lushr => obtain rfl : n = 1 := by simp only [xln] at hln; omega
             simp only [xstep] at h; obtain ⟨x, y, st', rfl, h⟩ := xo2s_inv h; exact lv_lushr hx hbb hd rfl (hnext hnn h hI hL (okc trivial (okt (okt hst))) hb)
  | dup => obtain rfl : n = 1 := by simp only [xln] at hln; omega
           simp only [xstep] at h; obtain ⟨v, st', rfl, hv, h⟩ := xdup_inv h
           exact lv_dup hx hbb hd (by rw [xc_cat]; exact hv) (hnext hnn h hI hL (okc (okh hst) hst) hb)
  | dup2 => obtain rfl : n = 1 := by simp only [xln] at hln; omega
            simp only [xstep] at h; obtain ⟨v, v2, st', rfl, hv, hv2, h⟩ := xdup2_inv h
            exact lv_dup2_11 hx hbb hd (by rw [xc_cat]; exact hv) (by rw [xc_cat]; exact hv2) (hnext hnn h hI hL (okc (okh hst) (okc (okh (okt hst)) hst)) hb)
  | pop => obtain rfl : n = 1 := by simp only [xln] at hln; omega
           simp only [xstep] at h; obtain ⟨v, st', rfl, hv, h⟩ := xpp_inv h
           exact lv_pop hx hbb hd (by rw [xc_cat]; exact hv) (hnext hnn h hI hL (okt hst) hb)
  | getfield i0 =>
    obtain rfl : n = 3 := by simp only [xln] at hln; omega
    simp only [xstep] at h; obtain ⟨i, st', sl, rfl, hs, h⟩ := xgf_inv h
    have hq := xok_obj (okh hst) hs
    refine xr_get C hI (hT.2.1 _ (of_decide_eq_true hau)) hq hs hd ?_
    rw [← xsv_c]
    refine hnext hnn h hI hL (okc ?_ (okt hst)) hb
    rcases sl with k | f
    · rcases k with _ | _ | k <;> trivial
    · exact Or.inl (xlink hq hs)
  | putfield i0 =>
    obtain rfl : n = 3 := by simp only [xln] at hln; omega
    simp only [xstep] at h
    rcases xpf_inv h with ⟨i, st', kd, x, rfl, hs, hk, h⟩ | ⟨i, st', x, rfl, hs, h⟩
    · exact xr_putI C hI (hT.2.1 _ (of_decide_eq_true hau)) (xok_obj (okh (okt hst)) hs) hs hk hd (fun H1 locs1 hI1 => hnext hnn h hI1 hL (okt (okt hst)) hb)
    · exact xr_putL C hI (hT.2.1 _ (of_decide_eq_true hau)) (xok_obj (okh (okt hst)) hs) hs hd (fun H1 locs1 hI1 => hnext hnn h hI1 hL (okt (okt hst)) hb)
  | arraylength =>
    obtain rfl : n = 1 := by simp only [xln] at hln; omega
    simp only [xstep] at h
    obtain ⟨t, i, j, st', rfl, ⟨n0, ha, h⟩ | ⟨kd, n0, ha, hk, h⟩⟩ := xal_inv h
    · obtain ⟨rfl, rfl, rfl⟩ := xok_scr (okh hst) ha
      exact xr_scl C hI hd (hnext hnn h hI hL (okc trivial (okt hst)) hb)
    · have hq := xok_arr (okh hst) ha hk
      have := xdom_kd hq
      rw [ha] at this
      exact xr_alen C hI hq ha this hd (hnext hnn h hI hL (okc trivial (okt hst)) hb)
  | iaload =>
    obtain rfl : n = 1 := by simp only [xln] at hln; omega
    simp only [xstep] at h
    obtain ⟨x, t, i, j, st', rfl, h, ⟨n0, ha, -, hin⟩ | ⟨n0, ha, hk, hin⟩⟩ := xga_inv h
    · obtain ⟨rfl, rfl, rfl⟩ := xok_scr (okh (okt hst)) ha
      exact xr_scr C hI hin hd (hnext hnn h hI hL (okc trivial (okt (okt hst))) hb)
    · exact xr_ld C hI (xok_arr (okh (okt hst)) ha hk) ha hin (Or.inl ⟨rfl, hd⟩) (hnext hnn h hI hL (okc trivial (okt (okt hst))) hb)
  | caload =>
    obtain rfl : n = 1 := by simp only [xln] at hln; omega
    simp only [xstep] at h
    obtain ⟨x, t, i, j, st', rfl, h, ⟨n0, ha, hz, hin⟩ | ⟨n0, ha, hk, hin⟩⟩ := xga_inv h
    · exact absurd hz (by decide)
    · exact xr_ld C hI (xok_arr (okh (okt hst)) ha hk) ha hin (Or.inr (Or.inl ⟨rfl, hd⟩)) (hnext hnn h hI hL (okc trivial (okt (okt hst))) hb)
  | baload =>
    obtain rfl : n = 1 := by simp only [xln] at hln; omega
    simp only [xstep] at h
    obtain ⟨x, t, i, j, st', rfl, h, ⟨n0, ha, hz, hin⟩ | ⟨n0, ha, hk, hin⟩⟩ := xga_inv h
    · exact absurd hz (by decide)
    · exact xr_ld C hI (xok_arr (okh (okt hst)) ha hk) ha hin (Or.inr (Or.inr ⟨rfl, hd⟩)) (hnext hnn h hI hL (okc trivial (okt (okt hst))) hb)
  | laload =>
    obtain rfl : n = 1 := by simp only [xln] at hln; omega
    simp only [xstep] at h
    obtain ⟨x, t, i, j, st', n0, rfl, ha, hin, h⟩ := xgl_inv h
    exact xr_ldl C hI (xok_arr (okh (okt hst)) ha (by decide)) ha hin hd (hnext hnn h hI hL (okc trivial (okt (okt hst))) hb)
  | aaload =>
    obtain rfl : n = 1 := by simp only [xln] at hln; omega
    simp only [xstep] at h
    obtain ⟨x, t, i, j, st', kd, n0, rfl, ha, hk, hin, h⟩ := xgr_inv h
    have hq := xok_arr (okh (okt hst)) ha (by omega)
    exact xr_ldr C hI hq ha hk hin hd (hnext hnn h hI hL (okc (Or.inl (xlink4 hq ha hk (xin_lt hin))) (okt (okt hst))) hb)
  | iastore =>
    obtain rfl : n = 1 := by simp only [xln] at hln; omega
    simp only [xstep] at h
    obtain ⟨v, x, t, i, j, st', n0, rfl, ha, hin, hv, h⟩ := xpa_inv h
    exact xr_st C hI (xok_arr (okh (okt (okt hst))) ha (by decide)) ha hin (Or.inl ⟨rfl, rfl, hd⟩) (fun H1 locs1 hI1 => hnext hnn h hI1 hL (okt (okt (okt hst))) hb)
  | castore =>
    obtain rfl : n = 1 := by simp only [xln] at hln; omega
    simp only [xstep] at h
    obtain ⟨v, x, t, i, j, st', n0, rfl, ha, hin, hv, h⟩ := xpa_inv h
    exact xr_st C hI (xok_arr (okh (okt (okt hst))) ha (by decide)) ha hin (Or.inr (Or.inl ⟨rfl, rfl, hd⟩)) (fun H1 locs1 hI1 => hnext hnn h hI1 hL (okt (okt (okt hst))) hb)
  | bastore =>
    obtain rfl : n = 1 := by simp only [xln] at hln; omega
    simp only [xstep] at h
    obtain ⟨v, x, t, i, j, st', n0, rfl, ha, hin, hv, h⟩ := xpa_inv h
    exact xr_st C hI (xok_arr (okh (okt (okt hst))) ha (by decide)) ha hin (Or.inr (Or.inr ⟨rfl, rfl, xbl_or hv, hd⟩)) (fun H1 locs1 hI1 => hnext hnn h hI1 hL (okt (okt (okt hst))) hb)
  | lastore =>
    obtain rfl : n = 1 := by simp only [xln] at hln; omega
    simp only [xstep] at h
    obtain ⟨v, x, t, i, j, st', n0, rfl, ha, hin, h⟩ := xpl_inv h
    exact xr_stl C hI (xok_arr (okh (okt (okt hst))) ha (by decide)) ha hin hd (fun H1 locs1 hI1 => hnext hnn h hI1 hL (okt (okt (okt hst))) hb)
  | invokevirtual i0 =>
    obtain rfl : n = 3 := by simp only [xln] at hln; omega
    simp only [xstep] at h
    unfold xcv at h
    split at h
    · rename_i t i as' rest hp
      replace h := cond_inv h; obtain ⟨ht, h⟩ := h
      replace ht := Nat.eq_of_beq_eq_true ht
      subst ht
      obtain ⟨bs, h1, h2, h3⟩ := xpop_some _ _ _ _ _ hp
      rw [List.append_nil] at h1
      obtain ⟨hsum, rk, F, r0, μ', hm, hF0, hr0, h⟩ := xca_inv h
      subst h3
      have hokb : ∀ v ∈ bs, xok v := fun v hv => hst v (List.mem_append_left _ (List.mem_reverse.mpr hv))
      have hokr : ∀ v ∈ rest, xok v := fun v hv => hst v (List.mem_append_right _ hv)
      rw [← h1] at hokb h2 ⊢
      rw [show (xr t i 0 :: as').reverse ++ rest = as'.reverse ++ xr t i 0 :: rest by simp]
      refine xr_callV C hls hI (hE _ hm) (of_decide_eq_true hau) hokb (by simpa using h2) hr0 hF0 hsum hd hcw (fun mc ms H1 locs1 hmc hms hI1 => ?_)
      refine hnext hnn h hI1 hL ?_ (xbd_call hbd hmc hms)
      intro v hv
      rcases List.mem_append.mp hv with hv | hv
      · rcases r0 with _ | x | x | q
        · cases hv
        · obtain rfl : v = .inl x := by simpa using hv
          trivial
        · obtain rfl : v = .inr (.inl x) := by simpa using hv
          trivial
        · exact absurd rfl (hr0 q)
      · exact hokr v hv
    · cases h
  | invokestatic i0 =>
    obtain rfl : n = 3 := by simp only [xln] at hln; omega
    rcases b with _ | _ | _ | _ | _ | b
    · replace h : xcs env i0 a μ (fun st μ => rec nx L st μ) st = some (r, μr) := h
      unfold xcs at h
      split at h
      · rename_i as' rest hp
        obtain ⟨bs, h1, h2, h3⟩ := xpop_some _ _ _ _ _ hp
        rw [List.append_nil] at h1
        obtain ⟨hsum, rk, F, r0, μ', hm, hF0, hr0, h⟩ := xca_inv h
        subst h3
        have hokb : ∀ v ∈ bs, xok v := fun v hv => hst v (List.mem_append_left _ (List.mem_reverse.mpr hv))
        have hokr : ∀ v ∈ rest, xok v := fun v hv => hst v (List.mem_append_right _ hv)
        rw [← h1] at hokb h2 ⊢
        refine xr_callS C hls hI (hE _ hm) hokb h2 hr0 hF0 hsum hd hcw (fun mc ms H1 locs1 hmc hms hI1 => ?_)
        refine hnext hnn h hI1 hL ?_ (xbd_call hbd hmc hms)
        intro v hv
        rcases List.mem_append.mp hv with hv | hv
        · rcases r0 with _ | x | x | q
          · cases hv
          · obtain rfl : v = .inl x := by simpa using hv
            trivial
          · obtain rfl : v = .inr (.inl x) := by simpa using hv
            trivial
          · exact absurd rfl (hr0 q)
        · exact hokr v hv
      · cases h
    · replace h : xmx (fun st => rec nx L st μ) st = some (r, μr) := h
      unfold xmx at h
      split at h
      · rename_i y x st'
        replace h := cond_inv h; obtain ⟨hs, h⟩ := h
        obtain ⟨-, w1, w2, w3, w4⟩ | ⟨z, -⟩ | ⟨z, -⟩ | ⟨z, -⟩ := hT.2.2.2.2 _ (of_decide_eq_true hau)
        · exact va_mmax hx hbb hmls hown (hts _ w1) (hts _ w2) (hts _ w3) (hts _ w4) hfr (by rw [xsum_xc]; have := Nat.le_of_ble_eq_true hs; omega) hcr.1 hcr.2 hd (hnext hnn h hI hL (okc trivial (okt (okt hst))) hb)
        · cases z
        · cases z
        · cases z
      · cases h
    · replace h : xmn (fun st => rec nx L st μ) st = some (r, μr) := h
      unfold xmn at h
      split at h
      · rename_i y x st'
        replace h := cond_inv h; obtain ⟨hs, h⟩ := h
        obtain ⟨z, -⟩ | ⟨-, w1, w2, w3, w4⟩ | ⟨z, -⟩ | ⟨z, -⟩ := hT.2.2.2.2 _ (of_decide_eq_true hau)
        · cases z
        · exact va_mmin hx hbb hmls hown (hts _ w1) (hts _ w2) (hts _ w3) (hts _ w4) hfr (by rw [xsum_xc]; have := Nat.le_of_ble_eq_true hs; omega) hcr.1 hcr.2 hd (hnext hnn h hI hL (okc trivial (okt (okt hst))) hb)
        · cases z
        · cases z
      · cases h
    · replace h : xab (fun st => rec nx L st μ) st = some (r, μr) := h
      unfold xab at h
      split at h
      · rename_i x st'
        replace h := cond_inv h; obtain ⟨hs, h⟩ := h
        obtain ⟨z, -⟩ | ⟨z, -⟩ | ⟨-, w1, w2, w3, w4⟩ | ⟨z, -⟩ := hT.2.2.2.2 _ (of_decide_eq_true hau)
        · cases z
        · cases z
        · exact va_mabs hx hbb hmls hown (hts _ w1) (hts _ w2) (hts _ w3) (hts _ w4) hfr (by rw [xsum_xc]; have := Nat.le_of_ble_eq_true hs; omega) hcr.1 hcr.2 hd (hnext hnn h hI hL (okc trivial (okt hst)) hb)
        · cases z
      · cases h
    · replace h : xcp μ (fun st μ => bif Nat.ble (xsum st) 8 then rec nx L st μ else none) st = some (r, μr) := h
      obtain ⟨n0, dp, t1, i1, j1, sp, t0, i0', j0, st', m0, m1, rfl, hok, ⟨ha0, ha1, h⟩ | ⟨ha0, ha1, h⟩⟩ := xcp_inv h
      · replace h := cond_inv h; obtain ⟨hs, h⟩ := h
        exact xr_cpi C hls hI (hT.2.2.2.2 _ (of_decide_eq_true hau)) (xok_arr (okh (okt (okt (okt (okt hst))))) ha0 (by decide)) (xok_arr (okh (okt (okt hst))) ha1 (by decide)) ha0 ha1 hok (by rw [xsum_xc]; exact Nat.le_of_ble_eq_true hs) hd (fun H1 locs1 hI1 => hnext hnn h hI1 hL (okt (okt (okt (okt (okt hst))))) hb)
      · replace h := cond_inv h; obtain ⟨hs, h⟩ := h
        exact xr_cpl C hls hI (hT.2.2.2.2 _ (of_decide_eq_true hau)) (xok_arr (okh (okt (okt (okt (okt hst))))) ha0 (by decide)) (xok_arr (okh (okt (okt hst))) ha1 (by decide)) ha0 ha1 hok (by rw [xsum_xc]; exact Nat.le_of_ble_eq_true hs) hd (fun H1 locs1 hI1 => hnext hnn h hI1 hL (okt (okt (okt (okt (okt hst))))) hb)
    · cases h
  | goto off => obtain rfl : n = 3 := by simp only [xln] at hln; omega
                simp only [xstep] at h; exact lv_goto hx hbb hd (of_decide_eq_true hau) (hjump h hI hL hst hb)
  | ifCond cd off =>
    obtain rfl : n = 3 := by simp only [xln] at hln; omega
    simp only [xstep] at h
    have ht : (pc : Int) + off = (a : Int) := of_decide_eq_true hau
    unfold xif at h
    split at h
    · rename_i x st'
      cases cd <;> dsimp only at h
      · refine lv_if_eq hx hbb hd ht (fun q => ?_) (fun q => ?_)
        · rw [if_pos q] at h; exact hjump h hI hL (okt hst) hb
        · rw [if_neg q] at h; exact hnext hnn h hI hL (okt hst) hb
      · refine lv_if_ne hx hbb hd ht (fun q => ?_) (fun q => ?_)
        · rw [if_neg q] at h; exact hjump h hI hL (okt hst) hb
        · rw [if_pos q] at h; exact hnext hnn h hI hL (okt hst) hb
      · refine lv_if_lt hx hbb hd ht (fun q => ?_) (fun q => ?_)
        · rw [if_pos q] at h; exact hjump h hI hL (okt hst) hb
        · rw [if_neg q] at h; exact hnext hnn h hI hL (okt hst) hb
      · refine lv_if_ge hx hbb hd ht (fun q => ?_) (fun q => ?_)
        · rw [if_neg (Int32.not_lt.mpr q)] at h; exact hjump h hI hL (okt hst) hb
        · rw [if_pos (Int32.not_le.mp q)] at h; exact hnext hnn h hI hL (okt hst) hb
      · refine lv_if_gt hx hbb hd ht (fun q => ?_) (fun q => ?_)
        · rw [if_pos q] at h; exact hjump h hI hL (okt hst) hb
        · rw [if_neg q] at h; exact hnext hnn h hI hL (okt hst) hb
      · refine lv_if_le hx hbb hd ht (fun q => ?_) (fun q => ?_)
        · rw [if_neg (Int32.not_lt.mpr q)] at h; exact hjump h hI hL (okt hst) hb
        · rw [if_pos (Int32.not_le.mp q)] at h; exact hnext hnn h hI hL (okt hst) hb
    · cases h
  | if_icmp cd off =>
    obtain rfl : n = 3 := by simp only [xln] at hln; omega
    simp only [xstep] at h
    have ht : (pc : Int) + off = (a : Int) := of_decide_eq_true hau
    unfold xic at h
    split at h
    · rename_i y x st'
      have hst2 := okt (okt hst)
      cases cd <;> dsimp only at h
      · refine lv_icmp_eq hx hbb hd ht (fun q => ?_) (fun q => ?_)
        · rw [if_pos q] at h; exact hjump h hI hL hst2 hb
        · rw [if_neg q] at h; exact hnext hnn h hI hL hst2 hb
      · refine lv_icmp_ne hx hbb hd ht (fun q => ?_) (fun q => ?_)
        · rw [if_neg q] at h; exact hjump h hI hL hst2 hb
        · rw [if_pos q] at h; exact hnext hnn h hI hL hst2 hb
      · refine lv_icmp_lt hx hbb hd ht (fun q => ?_) (fun q => ?_)
        · rw [if_pos q] at h; exact hjump h hI hL hst2 hb
        · rw [if_neg q] at h; exact hnext hnn h hI hL hst2 hb
      · refine lv_icmp_ge hx hbb hd ht (fun q => ?_) (fun q => ?_)
        · rw [if_neg (Int32.not_lt.mpr q)] at h; exact hjump h hI hL hst2 hb
        · rw [if_pos (Int32.not_le.mp q)] at h; exact hnext hnn h hI hL hst2 hb
      · refine lv_icmp_gt hx hbb hd ht (fun q => ?_) (fun q => ?_)
        · rw [if_pos q] at h; exact hjump h hI hL hst2 hb
        · rw [if_neg q] at h; exact hnext hnn h hI hL hst2 hb
      · refine lv_icmp_le hx hbb hd ht (fun q => ?_) (fun q => ?_)
        · rw [if_neg (Int32.not_lt.mpr q)] at h; exact hjump h hI hL hst2 hb
        · rw [if_pos (Int32.not_le.mp q)] at h; exact hnext hnn h hI hL hst2 hb
    · cases h
  | ifnull off =>
    obtain rfl : n = 3 := by simp only [xln] at hln; omega
    simp only [xstep] at h
    unfold xnl at h
    split at h
    · exact lv_ifnullN hx hbb hd (of_decide_eq_true hau) (hjump h hI hL (okt hst) hb)
    · exact lv_ifnull hx hbb hd (hnext hnn h hI hL (okt hst) hb)
    · cases h
  | ifnonnull off =>
    obtain rfl : n = 3 := by simp only [xln] at hln; omega
    simp only [xstep] at h
    unfold xnl at h
    split at h
    · exact lv_ifnonnullN hx hbb hd (hnext hnn h hI hL (okt hst) hb)
    · exact lv_ifnonnull hx hbb hd (of_decide_eq_true hau) (hjump h hI hL (okt hst) hb)
    · cases h
  | tableswitch df lo hi offs =>
    simp only [xstep] at h
    split at h
    · rename_i x st'
      simp only [xau, Bool.and_eq_true] at hau
      obtain ⟨⟨h1, h2⟩, h3⟩ := hau
      have ht : (pc : Int) + df = (a : Int) := of_decide_eq_true h1
      rcases xsw_inv h with ⟨q, hq, hxq, h9⟩ | ⟨hne, h9⟩
      · have h4 := List.all_eq_true.mp h2 q hq
        simp only [Bool.and_eq_true, decide_eq_true_eq] at h4
        rw [← hxq] at h4
        exact lv_tableIn hx hbb hd (by omega) (by omega) h4.2 (tgt := q.2) (by omega) (hjump h9 hI hL (okt hst) hb)
      · refine lv_tableOut hx hbb hd ?_ ht (hjump h9 hI hL (okt hst) hb)
        by_cases h5 : x.toInt < lo
        · exact Or.inl h5
        by_cases h6 : hi < x.toInt
        · exact Or.inr h6
        exfalso
        have h7 := List.all_eq_true.mp h3 (x.toInt - lo).toNat (List.mem_range.mpr (by omega))
        obtain ⟨q, hq, hq2⟩ := List.any_eq_true.mp h7
        have hq3 := of_decide_eq_true hq2
        refine hne q hq (Int32.toInt_inj.mp ?_)
        rw [hq3]
        omega
    · cases h
  | lookupswitch df ps =>
    simp only [xstep] at h
    split at h
    · rename_i x st'
      simp only [xau, Bool.and_eq_true] at hau
      obtain ⟨⟨h1, h2⟩, h3⟩ := hau
      have ht : (pc : Int) + df = (a : Int) := of_decide_eq_true h1
      have h3 := of_decide_eq_true h3
      obtain ⟨t, h4, h5⟩ := xlook ht h
      rw [← h3] at h5
      exact lv_lookup hx hbb hd h2 rfl h5 (hjump h4 hI hL (okt hst) hb)
    · cases h
  | ireturn =>
    obtain rfl : n = 1 := by simp only [xln] at hln; omega
    simp only [xstep] at h
    unfold xret at h
    split at h
    · rename_i x
      cases h
      exact (hF H locs cells slots pc ls hmls.symm hI (xbd_0 hbd).1 (xbd_0 hbd).2).2.1 x rfl (Or.inl rfl) hd
    · rename_i x
      unfold xrb at h
      replace h := cond_inv h; obtain ⟨hv, h⟩ := h
      cases h
      exact (hF H locs cells slots pc ls hmls.symm hI (xbd_0 hbd).1 (xbd_0 hbd).2).2.1 x rfl (Or.inr (Or.inl ⟨rfl, xbl_or hv⟩)) hd
    · rename_i x
      unfold xrc at h
      replace h := cond_inv h; obtain ⟨hv, h⟩ := h
      cases h
      exact (hF H locs cells slots pc ls hmls.symm hI (xbd_0 hbd).1 (xbd_0 hbd).2).2.1 x rfl (Or.inr (Or.inr ⟨rfl, of_decide_eq_true hv⟩)) hd
    · cases h
  | lreturn =>
    obtain rfl : n = 1 := by simp only [xln] at hln; omega
    simp only [xstep] at h
    split at h
    · rename_i x
      cases h
      exact (hF H locs cells slots pc ls hmls.symm hI (xbd_0 hbd).1 (xbd_0 hbd).2).2.2.1 x rfl rfl hd
    · cases h
  | return_ =>
    obtain rfl : n = 1 := by simp only [xln] at hln; omega
    simp only [xstep] at h
    split at h
    · cases h
      exact (hF H locs cells slots pc ls hmls.symm hI (xbd_0 hbd).1 (xbd_0 hbd).2).1 rfl rfl hd
    · cases h
  | new i0 =>
    obtain rfl : n = 3 := by simp only [xln] at hln; omega
    simp only [xstep] at h
    cases h
    exact (hF H locs cells slots pc ls hmls.symm hI (xbd_0 hbd).1 (xbd_0 hbd).2).2.2.2 i0 _ hau rfl hd
  | nop => exact absurd rfl hnop
  | _ => simp only [xstep] at h; cases h
end
section
/-! A BODY -/
set_option maxHeartbeats 1000000 in
theorem xs_body {p : Program} {l : Launch} {e : Env} {R : Room} {s : State} {m : MethodId} {args : Array Value} {below : List Frame} {meth : Method} {c : Code} {Z : State → Prop} {cc : ByteArray} {own : String} {X : XP} {nL : Nat}
    (C : XCt X p R s m args c cc own nL) {tab : List XE} {env : XN} {rt K : Nat} {nw : Bool} {fl : List (Nat × Nat × Nat)} {cl : List (Nat × Int32)} {ll : List (Nat × Int64)} {jl : List (Nat × Nat)} (hT : xtab own cc nw fl cl ll jl tab)
    {ac as capc caps : Nat} (hE : ∀ q ∈ env, xcal X l R own ac as q) (hcap : capc ≤ R.cells ∧ caps ≤ R.slots) {r : Option XV} {μr : XM}
    (hF : XFin p l e R s m args below meth c Z cc X nw rt capc caps r μr) :
    ∀ n : Nat, (∀ h L st μ H locs cells slots ls, arr tab env rt K n h L st μ = some (r, μr) → XI X s μ H locs → xloc X ls nL L → (∀ v ∈ st, xok v) → xbd capc caps ac as (n * (K + 1)) cells slots → W p l e R s m args below meth c H locs cells slots Z (F0 m h ls (st.map (xc X)))) ∧
      ∀ k : Nat, ∀ (e' : XE) (nx pre : List XE), tab = pre ++ e' :: nx → ∀ L st μ H locs cells slots ls, ex (arr tab env rt K n) tab env rt k (e' :: nx) L st μ = some (r, μr) → XI X s μ H locs → xloc X ls nL L → (∀ v ∈ st, xok v) → xbd capc caps ac as (n * (K + 1) + k) cells slots → W p l e R s m args below meth c H locs cells slots Z (F0 m e'.1 ls (st.map (xc X))) := by
  have hnil : ∀ (A : Nat → XL → List XV → XM → XR) (k : Nat) (L : XL) (st : List XV) (μ : XM), ex A tab env rt k [] L st μ = none := by
    intro A k L st μ
    cases k <;> rfl
  have hex : ∀ n : Nat, (∀ h L st μ H locs cells slots ls, arr tab env rt K n h L st μ = some (r, μr) → XI X s μ H locs → xloc X ls nL L → (∀ v ∈ st, xok v) → xbd capc caps ac as (n * (K + 1)) cells slots → W p l e R s m args below meth c H locs cells slots Z (F0 m h ls (st.map (xc X)))) →
      ∀ k : Nat, ∀ (e' : XE) (nx pre : List XE), tab = pre ++ e' :: nx → ∀ L st μ H locs cells slots ls, ex (arr tab env rt K n) tab env rt k (e' :: nx) L st μ = some (r, μr) → XI X s μ H locs → xloc X ls nL L → (∀ v ∈ st, xok v) → xbd capc caps ac as (n * (K + 1) + k) cells slots → W p l e R s m args below meth c H locs cells slots Z (F0 m e'.1 ls (st.map (xc X))) := by
    intro n hA k
    induction k with
    | zero => intro e' nx pre _ L st μ H locs cells slots ls h; cases h
    | succ k ih =>
      intro e' nx pre htab L st μ H locs cells slots ls h hI hL hst hbd
      exact xs_step C hT hE hcap hF (A := arr tab env rt K n) (rec := ex (arr tab env rt K n) tab env rt k) (w := n * (K + 1) + k) (wA := n * (K + 1)) (Nat.le_add_right _ _) hA (hnil _ k) ih htab h hI hL hst hbd
  intro n
  induction n with
  | zero => exact ⟨(fun h L st μ H locs cells slots ls q => by cases q), hex 0 (fun h L st μ H locs cells slots ls q => by cases q)⟩
  | succ n ih =>
    have hA : ∀ h L st μ H locs cells slots ls, arr tab env rt K (n + 1) h L st μ = some (r, μr) → XI X s μ H locs → xloc X ls nL L → (∀ v ∈ st, xok v) → xbd capc caps ac as ((n + 1) * (K + 1)) cells slots → W p l e R s m args below meth c H locs cells slots Z (F0 m h ls (st.map (xc X))) := by
      intro h L st μ H locs cells slots ls q hI hL hst hbd
      replace q : ex (arr tab env rt K n) tab env rt K (xhd (xseek h tab)) L st μ = some (r, μr) := q
      rcases xseek_at tab h with h6 | ⟨pre', e', nx', h6, h7, h8⟩
      · rw [h6] at q
        rw [show xhd ([] : List XE) = [] from rfl, hnil] at q
        cases q
      · rw [h7] at q
        obtain ⟨pc, ins, a⟩ := e'
        by_cases hnop : ins = .nop
        · subst hnop
          replace q : ex (arr tab env rt K n) tab env rt K nx' L st μ = some (r, μr) := q
          cases nx' with
          | nil => rw [hnil] at q; cases q
          | cons e2 nx2 =>
            obtain ⟨n1, hn1, hnx⟩ := xwf_at hT.1 h6
            have e3 : n1 = pc := by
              have : xnx own cc nw fl cl ll jl (pc, Instr.nop, a) = some pc := by unfold xnx; rw [if_pos rfl]
              rw [this] at hn1
              exact (Option.some.inj hn1).symm
            have e4 := hnx e2 nx2 rfl
            have e5 : e2.1 = h := by rw [← e4, e3]; exact h8
            rw [← e5]
            refine ih.2 K e2 nx2 (pre' ++ [(pc, .nop, a)]) (by rw [h6]; simp) _ _ _ _ _ _ _ _ q hI hL hst (xbd_le hbd ?_)
            rw [Nat.succ_mul]
            omega
        · have : xhd ((pc, ins, a) :: nx') = [] := by cases ins <;> first | rfl | exact absurd rfl hnop
          rw [this, hnil] at q
          cases q
    exact ⟨hA, hex (n + 1) hA⟩
/-- the locals at a method's start -/
def xargs : List XV → XL
  | [] => []
  | .inr (.inl x) :: vs => some (.inr (.inl x)) :: none :: xargs vs
  | v :: vs => some v :: xargs vs
def xlo (av : List XV) (n : Nat) : XL := xargs av ++ List.replicate (n - (xargs av).length) none
theorem xlv_repl (X : XP) (k n : Nat) : xlv X k (List.replicate n none) = [] := by
  induction n generalizing k with
  | zero => rfl
  | succ n ih => simp [List.replicate_succ, xlv, ih]
theorem xlv_app (X : XP) : ∀ (L M : XL) (k : Nat), xlv X k (L ++ M) = xlv X k L ++ xlv X (k + L.length) M := by
  intro L
  induction L with
  | nil => intro M k; simp [xlv]
  | cons a L ih =>
    intro M k
    cases a <;> simp [xlv, ih, Nat.add_assoc, Nat.add_comm 1]
theorem xargs_lv (X : XP) : ∀ (av : List XV) (k : Nat), xlv X k (xargs av) = lv_args k (av.map (xc X)) := by
  intro av
  induction av with
  | nil => intro k; rfl
  | cons v av ih =>
    intro k
    rcases v with x | x | x
    · show (k, Value.int x) :: xlv X (k + 1) (xargs av) = _
      rw [ih]; rfl
    · show (k, Value.long x) :: xlv X (k + 1 + 1) (xargs av) = _
      rw [ih]; rfl
    · show (k, xc X (.inr (.inr x))) :: xlv X (k + 1) (xargs av) = _
      rw [ih]
      cases x <;> rfl
theorem xargs_sl (X : XP) : ∀ (av : List XV), (lg_sl (av.map (xc X))).length = (xargs av).length := by
  intro av
  induction av with
  | nil => rfl
  | cons v av ih =>
    rcases v with x | x | x
    · show (lg_sl (Value.int x :: av.map (xc X))).length = (xargs av).length + 1
      rw [← ih]; simp [lg_sl, Value.category]
    · show (lg_sl (Value.long x :: av.map (xc X))).length = (xargs av).length + 1 + 1
      rw [← ih]; simp [lg_sl, Value.category]
    · show (lg_sl (xc X (.inr (.inr x)) :: av.map (xc X))).length = (xargs av).length + 1
      rw [← ih]
      cases x <;> simp [lg_sl, xc, Value.category]
theorem xargs_ok : ∀ (av : List XV), (∀ v ∈ av, xok v) → ∀ v, some v ∈ xargs av → xok v := by
  intro av
  induction av with
  | nil => intro _ v h; cases h
  | cons w av ih =>
    intro h v hv
    have h2 := ih (okt h)
    rcases w with x | x | x
    · rcases List.mem_cons.mp hv with hv | hv
      · cases hv; trivial
      · exact h2 v hv
    · rcases List.mem_cons.mp hv with hv | hv
      · cases hv; trivial
      · rcases List.mem_cons.mp hv with hv | hv
        · cases hv
        · exact h2 v hv
    · rcases List.mem_cons.mp hv with hv | hv
      · cases hv; exact okh h
      · exact h2 v hv
def xrtk (ret : Option FieldType) : Nat := match ret with | none => 0 | some .int => 1 | some .boolean => 2 | some .char => 3 | some .long => 4 | _ => 9
set_option maxHeartbeats 1000000 in
/-- a method's contract, out of its table and its function -/
theorem Ctr_of {X : XP} (hX : XOK X) {l : Launch} {y : MethodName} {cc : ByteArray} {maxL : Nat} {ret : Option FieldType} {rm : Room} {F : XF} {tab : List XE} {env : XN} {K N : Nat} {fl : List (Nat × Nat × Nat)} {cl : List (Nat × Int32)} {ll : List (Nat × Int64)} {jl : List (Nat × Nat)}
    (hy : plainName y.cls = true) (hT : xtab y.cls cc false fl cl ll jl tab) (hE : ∀ q ∈ env, xcal X l rm y.cls 0 0 q) (hrm : rm.cells = 0 ∧ rm.slots = 0 ∧ 1 ≤ rm.frames ∧ 100 ≤ rm.locals) (h0 : ∃ e0 nx, tab = e0 :: nx ∧ e0.1 = 0)
    (hF : ∀ av μ r μ', F av μ = some (r, μ') → (xargs av).length ≤ maxL ∧ xrun tab env (xrtk ret) K N (xlo av maxL) μ = some (r, μ')) : Ctr X l y cc maxL ret rm 0 0 F := by
  intro av μ r μ' hok h
  obtain ⟨hlen, h⟩ := hF av μ r μ' h
  refine Met.ofW (cc := cc) (maxL := maxL) (ret := ret) hy rfl ?_
  intro p e s m args below meth c s₁ B hml hv
  obtain ⟨rfl, hP, hK, hC, hscr⟩ := hv
  have hown : s.vm.findClass y.cls = some m.cls := findClass_of_methodNamed B.named
  have hts : ∀ w ∈ xG, w.before (av.map (xc X)).toArray s = true := fun w hw => atoms_spec (ws := Cond.code y cc maxL ret :: xG) B.pre w (List.mem_cons_of_mem _ hw)
  have CC : XCt X p (headSpec (Cond.code y cc maxL ret :: xG) rm).room s m (av.map (xc X)).toArray c cc y.cls maxL := ⟨B.exec, B.bytes, hml, hown, hts, hK, hC, hX, hrm.2.2.1, hrm.2.2.2⟩
  have hI : XI X s μ s.heap [] := ⟨hP, va_S.rf, hscr⟩
  rw [lg_entry_eq]
  have hl := lv_entry (av.map (xc X)) (n := maxL) (by rw [xargs_sl]; exact hlen)
  generalize (lg_sl (av.map (xc X)) ++ List.replicate (maxL - (lg_sl (av.map (xc X))).length) Slot.unset).toArray = ls at hl ⊢
  have hL : xloc X ls maxL (xlo av maxL) := by
    refine ⟨?_, by simp [xlo]; omega, ?_⟩
    · unfold xlo
      rw [xlv_app, xlv_repl, List.append_nil, xargs_lv]
      exact hl
    · intro v hv
      rcases List.mem_append.mp hv with hv | hv
      · exact xargs_ok av hok v hv
      · exact absurd (List.eq_of_mem_replicate hv) (by simp)
  have hfin : XFin p l e (headSpec (Cond.code y cc maxL ret :: xG) rm).room s m (av.map (xc X)).toArray below meth c (MQ below (xQ X r μ') (av.map (xc X)).toArray s 0 0 (xA X)) cc X false (xrtk ret) 0 0 r μ' := by
    intro H locs cells slots pc ls' hsz hI' hc hs
    obtain rfl : cells = 0 := by omega
    obtain rfl : slots = 0 := by omega
    refine ⟨fun hrt hr hd => ?_, fun x hr hrt hd => ?_, fun x hrt hr hd => ?_, fun idx st hz => by cases hz⟩
    · subst hr
      have hret : ret = none := by
        unfold xrtk at hrt; split at hrt <;> first | rfl | omega
      exact W.vret CC.1 CC.2.1 (by rw [B.returns]; exact hret) (fun t ht hW => ⟨⟨(), rfl, trivial, xW_now CC hI' ht hW⟩, hI'.2.1.F ht⟩) hI'.2.1.2.2 hd (hlocks := B.notSynchronized)
    · subst hr
      have hq : ∀ t : State, t.heap = H → s.WarmedH t.vm → xQ X (some (xi x)) μ' (av.map (xc X)).toArray s (.returned (some (.int x))) t := fun t ht hW => ⟨⟨x, (), rfl, rfl, xW_now CC hI' ht hW⟩, hI'.2.1.F ht⟩
      rcases hrt with hrt | ⟨hrt, hv⟩ | ⟨hrt, hv⟩
      · have hret : ret = some .int := by
          unfold xrtk at hrt; split at hrt <;> first | rfl | omega
        exact W.iret CC.1 CC.2.1 (by rw [B.returns]; exact hret) hq hI'.2.1.2.2 hd (hlocks := B.notSynchronized)
      · have hret : ret = some .boolean := by
          unfold xrtk at hrt; split at hrt <;> first | rfl | omega
        exact W.zret (ty := .boolean) CC.1 CC.2.1 (by rw [B.returns]; exact hret) (by rcases hv with rfl | rfl <;> decide +kernel) hq hI'.2.1.2.2 hd (hlocks := B.notSynchronized)
      · have hret : ret = some .char := by
          unfold xrtk at hrt; split at hrt <;> first | rfl | omega
        have hn : narrow .char (.int x) = .int x := by
          have h9 : narrow .char (.int x) = .int (vp_nar .char x) := rfl
          rw [h9, hv]
        exact W.zret (ty := .char) CC.1 CC.2.1 (by rw [B.returns]; exact hret) hn hq hI'.2.1.2.2 hd (hlocks := B.notSynchronized)
    · subst hr
      have hret : ret = some .long := by
        unfold xrtk at hrt; split at hrt <;> first | rfl | omega
      exact W.lret CC.1 CC.2.1 (by rw [B.returns]; exact hret) (fun t ht hW => ⟨⟨x, (), rfl, rfl, xW_now CC hI' ht hW⟩, hI'.2.1.F ht⟩) hI'.2.1.2.2 hd (hlocks := B.notSynchronized)
  obtain ⟨e0, nx, htab, he0⟩ := h0
  have hrun : ex (arr tab env (xrtk ret) K N) tab env (xrtk ret) K (e0 :: nx) (xlo av maxL) [] μ = some (r, μ') := by
    have : xrun tab env (xrtk ret) K N (xlo av maxL) μ = ex (arr tab env (xrtk ret) K N) tab env (xrtk ret) K tab (xlo av maxL) [] μ := rfl
    rw [this] at h
    rw [← htab]; exact h
  have := (xs_body CC hT hE (ac := 0) (as := 0) (capc := 0) (caps := 0) ⟨Nat.zero_le _, Nat.zero_le _⟩ hfin N).2 K e0 nx [] htab (xlo av maxL) [] μ s.heap [] 0 0 ls hrun hI hL (fun v h => absurd h List.not_mem_nil) ⟨by simp, by simp⟩
  rw [he0] at this
  exact this
end
