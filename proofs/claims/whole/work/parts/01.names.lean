-- ===== PART A: goes FIRST, ahead of the names: the tables' words, and 'selects' of the private methods out of them =====
/-- a private method of a class that the tables say can be made, by its rows of tables_1 -/
def lw_okq (q : MethodName × Nat) : Prop := (q.1.cls ≠ "java/lang/invoke/MethodHandle" ∧ q.1.cls ≠ "java/lang/invoke/VarHandle") ∧ Cond.instantiable q.1.cls q.2 ∈ tables_1 ∧ Cond.privateMethod q.1 ∈ tables_1 ∧ Cond.instanceMethod q.1 ∈ tables_1
theorem lw_p0 : lw_okq (⟨"MissionHouse$Tape", "byteAt", "(I)I"⟩, 4) := ⟨⟨by decide +kernel, by decide +kernel⟩, List.mem_of_getElem? (i := 31) (by decide +kernel), List.mem_of_getElem? (i := 564) (by decide +kernel), List.mem_of_getElem? (i := 565) (by decide +kernel)⟩
theorem lw_p1 : lw_okq (⟨"MissionHouse$Tape", "inRange", "(IIII)I"⟩, 4) := ⟨⟨by decide +kernel, by decide +kernel⟩, List.mem_of_getElem? (i := 31) (by decide +kernel), List.mem_of_getElem? (i := 571) (by decide +kernel), List.mem_of_getElem? (i := 572) (by decide +kernel)⟩
theorem lw_p2 : lw_okq (⟨"MissionHouse$Calendar", "hasLeap", "(I)Z"⟩, 2) := ⟨⟨by decide +kernel, by decide +kernel⟩, List.mem_of_getElem? (i := 86) (by decide +kernel), List.mem_of_getElem? (i := 580) (by decide +kernel), List.mem_of_getElem? (i := 581) (by decide +kernel)⟩
theorem lw_p3 : lw_okq (⟨"MissionHouse$Calendar", "leapsBefore", "(I)I"⟩, 2) := ⟨⟨by decide +kernel, by decide +kernel⟩, List.mem_of_getElem? (i := 86) (by decide +kernel), List.mem_of_getElem? (i := 584) (by decide +kernel), List.mem_of_getElem? (i := 585) (by decide +kernel)⟩
theorem lw_p4 : lw_okq (⟨"MissionHouse$Orbit", "inArc", "(III)I"⟩, 9) := ⟨⟨by decide +kernel, by decide +kernel⟩, List.mem_of_getElem? (i := 99) (by decide +kernel), List.mem_of_getElem? (i := 649) (by decide +kernel), List.mem_of_getElem? (i := 650) (by decide +kernel)⟩
theorem lw_p5 : lw_okq (⟨"MissionHouse$Orbit", "whenPassed", "(II)I"⟩, 9) := ⟨⟨by decide +kernel, by decide +kernel⟩, List.mem_of_getElem? (i := 99) (by decide +kernel), List.mem_of_getElem? (i := 653) (by decide +kernel), List.mem_of_getElem? (i := 654) (by decide +kernel)⟩
theorem lw_p6 : lw_okq (⟨"MissionHouse$Lines", "readLine", "(LMissionHouse$Tape;I)V"⟩, 7) := ⟨⟨by decide +kernel, by decide +kernel⟩, List.mem_of_getElem? (i := 52) (by decide +kernel), List.mem_of_getElem? (i := 695) (by decide +kernel), List.mem_of_getElem? (i := 696) (by decide +kernel)⟩
theorem lw_p7 : lw_okq (⟨"MissionHouse$Tape", "wordEnd", "()I"⟩, 4) := ⟨⟨by decide +kernel, by decide +kernel⟩, List.mem_of_getElem? (i := 31) (by decide +kernel), List.mem_of_getElem? (i := 703) (by decide +kernel), List.mem_of_getElem? (i := 704) (by decide +kernel)⟩
theorem lw_p8 : lw_okq (⟨"MissionHouse$Tape", "reads", "(Ljava/lang/String;I)Z"⟩, 4) := ⟨⟨by decide +kernel, by decide +kernel⟩, List.mem_of_getElem? (i := 31) (by decide +kernel), List.mem_of_getElem? (i := 748) (by decide +kernel), List.mem_of_getElem? (i := 749) (by decide +kernel)⟩
theorem lw_p9 : lw_okq (⟨"MissionHouse$Lines", "readRest", "(LMissionHouse$Tape;II)V"⟩, 7) := ⟨⟨by decide +kernel, by decide +kernel⟩, List.mem_of_getElem? (i := 52) (by decide +kernel), List.mem_of_getElem? (i := 800) (by decide +kernel), List.mem_of_getElem? (i := 801) (by decide +kernel)⟩
theorem lw_p10 : lw_okq (⟨"MissionHouse$Lines", "readCondition", "(LMissionHouse$Tape;I)V"⟩, 7) := ⟨⟨by decide +kernel, by decide +kernel⟩, List.mem_of_getElem? (i := 52) (by decide +kernel), List.mem_of_getElem? (i := 805) (by decide +kernel), List.mem_of_getElem? (i := 806) (by decide +kernel)⟩
theorem lw_p11 : lw_okq (⟨"MissionHouse$Tape", "digits", "()I"⟩, 4) := ⟨⟨by decide +kernel, by decide +kernel⟩, List.mem_of_getElem? (i := 31) (by decide +kernel), List.mem_of_getElem? (i := 819) (by decide +kernel), List.mem_of_getElem? (i := 820) (by decide +kernel)⟩
theorem lw_p12 : lw_okq (⟨"MissionHouse$Board", "stop", "(I)V"⟩, 20) := ⟨⟨by decide +kernel, by decide +kernel⟩, List.mem_of_getElem? (i := 274) (by decide +kernel), List.mem_of_getElem? (i := 848) (by decide +kernel), List.mem_of_getElem? (i := 849) (by decide +kernel)⟩
theorem lw_p13 : lw_okq (⟨"MissionHouse$Board", "beginDue", "()V"⟩, 20) := ⟨⟨by decide +kernel, by decide +kernel⟩, List.mem_of_getElem? (i := 274) (by decide +kernel), List.mem_of_getElem? (i := 916) (by decide +kernel), List.mem_of_getElem? (i := 917) (by decide +kernel)⟩
theorem lw_p14 : lw_okq (⟨"MissionHouse$Board", "begin", "(I)V"⟩, 20) := ⟨⟨by decide +kernel, by decide +kernel⟩, List.mem_of_getElem? (i := 274) (by decide +kernel), List.mem_of_getElem? (i := 920) (by decide +kernel), List.mem_of_getElem? (i := 921) (by decide +kernel)⟩
theorem lw_p15 : lw_okq (⟨"MissionHouse$Board", "goOn", "(I)V"⟩, 20) := ⟨⟨by decide +kernel, by decide +kernel⟩, List.mem_of_getElem? (i := 274) (by decide +kernel), List.mem_of_getElem? (i := 924) (by decide +kernel), List.mem_of_getElem? (i := 925) (by decide +kernel)⟩
def lw_privs_1 : List (MethodName × Nat) := [(⟨"MissionHouse$Tape", "byteAt", "(I)I"⟩, 4), (⟨"MissionHouse$Tape", "inRange", "(IIII)I"⟩, 4), (⟨"MissionHouse$Calendar", "hasLeap", "(I)Z"⟩, 2), (⟨"MissionHouse$Calendar", "leapsBefore", "(I)I"⟩, 2), (⟨"MissionHouse$Orbit", "inArc", "(III)I"⟩, 9), (⟨"MissionHouse$Orbit", "whenPassed", "(II)I"⟩, 9), (⟨"MissionHouse$Lines", "readLine", "(LMissionHouse$Tape;I)V"⟩, 7), (⟨"MissionHouse$Tape", "wordEnd", "()I"⟩, 4), (⟨"MissionHouse$Tape", "reads", "(Ljava/lang/String;I)Z"⟩, 4), (⟨"MissionHouse$Lines", "readRest", "(LMissionHouse$Tape;II)V"⟩, 7), (⟨"MissionHouse$Lines", "readCondition", "(LMissionHouse$Tape;I)V"⟩, 7), (⟨"MissionHouse$Tape", "digits", "()I"⟩, 4), (⟨"MissionHouse$Board", "stop", "(I)V"⟩, 20), (⟨"MissionHouse$Board", "beginDue", "()V"⟩, 20), (⟨"MissionHouse$Board", "begin", "(I)V"⟩, 20), (⟨"MissionHouse$Board", "goOn", "(I)V"⟩, 20)]
theorem lw_r1 : ∀ q ∈ lw_privs_1, lw_okq q := List.forall_mem_cons.mpr ⟨lw_p0, List.forall_mem_cons.mpr ⟨lw_p1, List.forall_mem_cons.mpr ⟨lw_p2, List.forall_mem_cons.mpr ⟨lw_p3, List.forall_mem_cons.mpr ⟨lw_p4, List.forall_mem_cons.mpr ⟨lw_p5, List.forall_mem_cons.mpr ⟨lw_p6, List.forall_mem_cons.mpr ⟨lw_p7, List.forall_mem_cons.mpr ⟨lw_p8, List.forall_mem_cons.mpr ⟨lw_p9, List.forall_mem_cons.mpr ⟨lw_p10, List.forall_mem_cons.mpr ⟨lw_p11, List.forall_mem_cons.mpr ⟨lw_p12, List.forall_mem_cons.mpr ⟨lw_p13, List.forall_mem_cons.mpr ⟨lw_p14, List.forall_mem_cons.mpr ⟨lw_p15, fun _ h => absurd h List.not_mem_nil⟩⟩⟩⟩⟩⟩⟩⟩⟩⟩⟩⟩⟩⟩⟩⟩
theorem lw_p16 : lw_okq (⟨"MissionHouse$Board", "doLine", "(I)Z"⟩, 20) := ⟨⟨by decide +kernel, by decide +kernel⟩, List.mem_of_getElem? (i := 274) (by decide +kernel), List.mem_of_getElem? (i := 928) (by decide +kernel), List.mem_of_getElem? (i := 929) (by decide +kernel)⟩
theorem lw_p17 : lw_okq (⟨"MissionHouse$Board", "judge", "(LMissionHouse$Lines;I)I"⟩, 20) := ⟨⟨by decide +kernel, by decide +kernel⟩, List.mem_of_getElem? (i := 274) (by decide +kernel), List.mem_of_getElem? (i := 933) (by decide +kernel), List.mem_of_getElem? (i := 934) (by decide +kernel)⟩
theorem lw_p18 : lw_okq (⟨"MissionHouse$Board", "measure", "(I)I"⟩, 20) := ⟨⟨by decide +kernel, by decide +kernel⟩, List.mem_of_getElem? (i := 274) (by decide +kernel), List.mem_of_getElem? (i := 937) (by decide +kernel), List.mem_of_getElem? (i := 938) (by decide +kernel)⟩
theorem lw_p19 : lw_okq (⟨"MissionHouse$Board", "decide", "(III)Z"⟩, 20) := ⟨⟨by decide +kernel, by decide +kernel⟩, List.mem_of_getElem? (i := 274) (by decide +kernel), List.mem_of_getElem? (i := 952) (by decide +kernel), List.mem_of_getElem? (i := 953) (by decide +kernel)⟩
theorem lw_p20 : lw_okq (⟨"MissionHouse$Board", "failOf", "(I)V"⟩, 20) := ⟨⟨by decide +kernel, by decide +kernel⟩, List.mem_of_getElem? (i := 274) (by decide +kernel), List.mem_of_getElem? (i := 956) (by decide +kernel), List.mem_of_getElem? (i := 957) (by decide +kernel)⟩
theorem lw_p21 : lw_okq (⟨"MissionHouse$Board", "perform", "(LMissionHouse$Lines;I)Z"⟩, 20) := ⟨⟨by decide +kernel, by decide +kernel⟩, List.mem_of_getElem? (i := 274) (by decide +kernel), List.mem_of_getElem? (i := 960) (by decide +kernel), List.mem_of_getElem? (i := 961) (by decide +kernel)⟩
theorem lw_p22 : lw_okq (⟨"MissionHouse$Board", "add", "(II)Z"⟩, 20) := ⟨⟨by decide +kernel, by decide +kernel⟩, List.mem_of_getElem? (i := 274) (by decide +kernel), List.mem_of_getElem? (i := 971) (by decide +kernel), List.mem_of_getElem? (i := 972) (by decide +kernel)⟩
theorem lw_p23 : lw_okq (⟨"MissionHouse$Board", "record", "(I)Z"⟩, 20) := ⟨⟨by decide +kernel, by decide +kernel⟩, List.mem_of_getElem? (i := 274) (by decide +kernel), List.mem_of_getElem? (i := 975) (by decide +kernel), List.mem_of_getElem? (i := 976) (by decide +kernel)⟩
theorem lw_p24 : lw_okq (⟨"MissionHouse$Link", "lastClass", "()I"⟩, 15) := ⟨⟨by decide +kernel, by decide +kernel⟩, List.mem_of_getElem? (i := 213) (by decide +kernel), List.mem_of_getElem? (i := 987) (by decide +kernel), List.mem_of_getElem? (i := 988) (by decide +kernel)⟩
theorem lw_p25 : lw_okq (⟨"MissionHouse$Link", "slot", "(II)I"⟩, 15) := ⟨⟨by decide +kernel, by decide +kernel⟩, List.mem_of_getElem? (i := 213) (by decide +kernel), List.mem_of_getElem? (i := 991) (by decide +kernel), List.mem_of_getElem? (i := 992) (by decide +kernel)⟩
theorem lw_p26 : lw_okq (⟨"MissionHouse$Link", "takeOldest", "(II)V"⟩, 15) := ⟨⟨by decide +kernel, by decide +kernel⟩, List.mem_of_getElem? (i := 213) (by decide +kernel), List.mem_of_getElem? (i := 995) (by decide +kernel), List.mem_of_getElem? (i := 996) (by decide +kernel)⟩
theorem lw_p27 : lw_okq (⟨"MissionHouse$Board", "goTo", "(I)V"⟩, 20) := ⟨⟨by decide +kernel, by decide +kernel⟩, List.mem_of_getElem? (i := 274) (by decide +kernel), List.mem_of_getElem? (i := 1002) (by decide +kernel), List.mem_of_getElem? (i := 1003) (by decide +kernel)⟩
theorem lw_p28 : lw_okq (⟨"MissionHouse$Board", "watch", "(I)V"⟩, 20) := ⟨⟨by decide +kernel, by decide +kernel⟩, List.mem_of_getElem? (i := 274) (by decide +kernel), List.mem_of_getElem? (i := 1010) (by decide +kernel), List.mem_of_getElem? (i := 1011) (by decide +kernel)⟩
theorem lw_p29 : lw_okq (⟨"MissionHouse$Board", "act", "(I)V"⟩, 20) := ⟨⟨by decide +kernel, by decide +kernel⟩, List.mem_of_getElem? (i := 274) (by decide +kernel), List.mem_of_getElem? (i := 1014) (by decide +kernel), List.mem_of_getElem? (i := 1015) (by decide +kernel)⟩
theorem lw_p30 : lw_okq (⟨"MissionHouse$Link", "fillData", "(I)I"⟩, 15) := ⟨⟨by decide +kernel, by decide +kernel⟩, List.mem_of_getElem? (i := 213) (by decide +kernel), List.mem_of_getElem? (i := 1022) (by decide +kernel), List.mem_of_getElem? (i := 1023) (by decide +kernel)⟩
theorem lw_p31 : lw_okq (⟨"MissionHouse$Link", "firstClass", "()I"⟩, 15) := ⟨⟨by decide +kernel, by decide +kernel⟩, List.mem_of_getElem? (i := 213) (by decide +kernel), List.mem_of_getElem? (i := 1026) (by decide +kernel), List.mem_of_getElem? (i := 1027) (by decide +kernel)⟩
def lw_privs_2 : List (MethodName × Nat) := [(⟨"MissionHouse$Board", "doLine", "(I)Z"⟩, 20), (⟨"MissionHouse$Board", "judge", "(LMissionHouse$Lines;I)I"⟩, 20), (⟨"MissionHouse$Board", "measure", "(I)I"⟩, 20), (⟨"MissionHouse$Board", "decide", "(III)Z"⟩, 20), (⟨"MissionHouse$Board", "failOf", "(I)V"⟩, 20), (⟨"MissionHouse$Board", "perform", "(LMissionHouse$Lines;I)Z"⟩, 20), (⟨"MissionHouse$Board", "add", "(II)Z"⟩, 20), (⟨"MissionHouse$Board", "record", "(I)Z"⟩, 20), (⟨"MissionHouse$Link", "lastClass", "()I"⟩, 15), (⟨"MissionHouse$Link", "slot", "(II)I"⟩, 15), (⟨"MissionHouse$Link", "takeOldest", "(II)V"⟩, 15), (⟨"MissionHouse$Board", "goTo", "(I)V"⟩, 20), (⟨"MissionHouse$Board", "watch", "(I)V"⟩, 20), (⟨"MissionHouse$Board", "act", "(I)V"⟩, 20), (⟨"MissionHouse$Link", "fillData", "(I)I"⟩, 15), (⟨"MissionHouse$Link", "firstClass", "()I"⟩, 15)]
theorem lw_r2 : ∀ q ∈ lw_privs_2, lw_okq q := List.forall_mem_cons.mpr ⟨lw_p16, List.forall_mem_cons.mpr ⟨lw_p17, List.forall_mem_cons.mpr ⟨lw_p18, List.forall_mem_cons.mpr ⟨lw_p19, List.forall_mem_cons.mpr ⟨lw_p20, List.forall_mem_cons.mpr ⟨lw_p21, List.forall_mem_cons.mpr ⟨lw_p22, List.forall_mem_cons.mpr ⟨lw_p23, List.forall_mem_cons.mpr ⟨lw_p24, List.forall_mem_cons.mpr ⟨lw_p25, List.forall_mem_cons.mpr ⟨lw_p26, List.forall_mem_cons.mpr ⟨lw_p27, List.forall_mem_cons.mpr ⟨lw_p28, List.forall_mem_cons.mpr ⟨lw_p29, List.forall_mem_cons.mpr ⟨lw_p30, List.forall_mem_cons.mpr ⟨lw_p31, fun _ h => absurd h List.not_mem_nil⟩⟩⟩⟩⟩⟩⟩⟩⟩⟩⟩⟩⟩⟩⟩⟩
theorem lw_p32 : lw_okq (⟨"MissionHouse$Link", "startPacket", "(I)V"⟩, 15) := ⟨⟨by decide +kernel, by decide +kernel⟩, List.mem_of_getElem? (i := 213) (by decide +kernel), List.mem_of_getElem? (i := 1030) (by decide +kernel), List.mem_of_getElem? (i := 1031) (by decide +kernel)⟩
theorem lw_p33 : lw_okq (⟨"MissionHouse$Ground", "begin", "(II)I"⟩, 12) := ⟨⟨by decide +kernel, by decide +kernel⟩, List.mem_of_getElem? (i := 354) (by decide +kernel), List.mem_of_getElem? (i := 1091) (by decide +kernel), List.mem_of_getElem? (i := 1092) (by decide +kernel)⟩
theorem lw_p34 : lw_okq (⟨"MissionHouse$Ground", "acknowledge", "(II)V"⟩, 12) := ⟨⟨by decide +kernel, by decide +kernel⟩, List.mem_of_getElem? (i := 354) (by decide +kernel), List.mem_of_getElem? (i := 1095) (by decide +kernel), List.mem_of_getElem? (i := 1096) (by decide +kernel)⟩
theorem lw_p35 : lw_okq (⟨"MissionHouse$Ground", "pieceTogether", "([III)I"⟩, 12) := ⟨⟨by decide +kernel, by decide +kernel⟩, List.mem_of_getElem? (i := 354) (by decide +kernel), List.mem_of_getElem? (i := 1103) (by decide +kernel), List.mem_of_getElem? (i := 1104) (by decide +kernel)⟩
theorem lw_p36 : lw_okq (⟨"MissionHouse$Ground", "putInArchive", "()V"⟩, 12) := ⟨⟨by decide +kernel, by decide +kernel⟩, List.mem_of_getElem? (i := 354) (by decide +kernel), List.mem_of_getElem? (i := 1108) (by decide +kernel), List.mem_of_getElem? (i := 1109) (by decide +kernel)⟩
theorem lw_p37 : lw_okq (⟨"MissionHouse$Board", "ready", "(I)V"⟩, 20) := ⟨⟨by decide +kernel, by decide +kernel⟩, List.mem_of_getElem? (i := 274) (by decide +kernel), List.mem_of_getElem? (i := 1155) (by decide +kernel), List.mem_of_getElem? (i := 1156) (by decide +kernel)⟩
theorem lw_p38 : lw_okq (⟨"MissionHouse$Passes", "findClashes", "()V"⟩, 10) := ⟨⟨by decide +kernel, by decide +kernel⟩, List.mem_of_getElem? (i := 406) (by decide +kernel), List.mem_of_getElem? (i := 1189) (by decide +kernel), List.mem_of_getElem? (i := 1190) (by decide +kernel)⟩
theorem lw_p39 : lw_okq (⟨"MissionHouse$Passes", "goTogether", "(II)Z"⟩, 10) := ⟨⟨by decide +kernel, by decide +kernel⟩, List.mem_of_getElem? (i := 406) (by decide +kernel), List.mem_of_getElem? (i := 1193) (by decide +kernel), List.mem_of_getElem? (i := 1194) (by decide +kernel)⟩
theorem lw_p40 : lw_okq (⟨"MissionHouse$Passes", "worthOf", "(I)I"⟩, 10) := ⟨⟨by decide +kernel, by decide +kernel⟩, List.mem_of_getElem? (i := 406) (by decide +kernel), List.mem_of_getElem? (i := 1197) (by decide +kernel), List.mem_of_getElem? (i := 1198) (by decide +kernel)⟩
theorem lw_p41 : lw_okq (⟨"MissionHouse$Passes", "isAhead", "(I)Z"⟩, 10) := ⟨⟨by decide +kernel, by decide +kernel⟩, List.mem_of_getElem? (i := 406) (by decide +kernel), List.mem_of_getElem? (i := 1201) (by decide +kernel), List.mem_of_getElem? (i := 1202) (by decide +kernel)⟩
theorem lw_p42 : lw_okq (⟨"MissionHouse$Sky", "isNearer", "(II)Z"⟩, 3) := ⟨⟨by decide +kernel, by decide +kernel⟩, List.mem_of_getElem? (i := 448) (by decide +kernel), List.mem_of_getElem? (i := 1235) (by decide +kernel), List.mem_of_getElem? (i := 1236) (by decide +kernel)⟩
theorem lw_p43 : lw_okq (⟨"MissionHouseModel", "four", "(I)V"⟩, 106) := ⟨⟨by decide +kernel, by decide +kernel⟩, List.mem_of_getElem? (i := 1241) (by decide +kernel), List.mem_of_getElem? (i := 1603) (by decide +kernel), List.mem_of_getElem? (i := 1604) (by decide +kernel)⟩
theorem lw_p44 : lw_okq (⟨"MissionHouseModel", "take", "()V"⟩, 106) := ⟨⟨by decide +kernel, by decide +kernel⟩, List.mem_of_getElem? (i := 1241) (by decide +kernel), List.mem_of_getElem? (i := 1635) (by decide +kernel), List.mem_of_getElem? (i := 1636) (by decide +kernel)⟩
theorem lw_p45 : lw_okq (⟨"MissionHouseModel", "digits", "(III)I"⟩, 106) := ⟨⟨by decide +kernel, by decide +kernel⟩, List.mem_of_getElem? (i := 1241) (by decide +kernel), List.mem_of_getElem? (i := 1639) (by decide +kernel), List.mem_of_getElem? (i := 1640) (by decide +kernel)⟩
theorem lw_p46 : lw_okq (⟨"MissionHouseModel", "bad", "()Z"⟩, 106) := ⟨⟨by decide +kernel, by decide +kernel⟩, List.mem_of_getElem? (i := 1241) (by decide +kernel), List.mem_of_getElem? (i := 1643) (by decide +kernel), List.mem_of_getElem? (i := 1644) (by decide +kernel)⟩
theorem lw_p47 : lw_okq (⟨"MissionHouseModel", "here", "()I"⟩, 106) := ⟨⟨by decide +kernel, by decide +kernel⟩, List.mem_of_getElem? (i := 1241) (by decide +kernel), List.mem_of_getElem? (i := 1647) (by decide +kernel), List.mem_of_getElem? (i := 1648) (by decide +kernel)⟩
def lw_privs_3 : List (MethodName × Nat) := [(⟨"MissionHouse$Link", "startPacket", "(I)V"⟩, 15), (⟨"MissionHouse$Ground", "begin", "(II)I"⟩, 12), (⟨"MissionHouse$Ground", "acknowledge", "(II)V"⟩, 12), (⟨"MissionHouse$Ground", "pieceTogether", "([III)I"⟩, 12), (⟨"MissionHouse$Ground", "putInArchive", "()V"⟩, 12), (⟨"MissionHouse$Board", "ready", "(I)V"⟩, 20), (⟨"MissionHouse$Passes", "findClashes", "()V"⟩, 10), (⟨"MissionHouse$Passes", "goTogether", "(II)Z"⟩, 10), (⟨"MissionHouse$Passes", "worthOf", "(I)I"⟩, 10), (⟨"MissionHouse$Passes", "isAhead", "(I)Z"⟩, 10), (⟨"MissionHouse$Sky", "isNearer", "(II)Z"⟩, 3), (⟨"MissionHouseModel", "four", "(I)V"⟩, 106), (⟨"MissionHouseModel", "take", "()V"⟩, 106), (⟨"MissionHouseModel", "digits", "(III)I"⟩, 106), (⟨"MissionHouseModel", "bad", "()Z"⟩, 106), (⟨"MissionHouseModel", "here", "()I"⟩, 106)]
theorem lw_r3 : ∀ q ∈ lw_privs_3, lw_okq q := List.forall_mem_cons.mpr ⟨lw_p32, List.forall_mem_cons.mpr ⟨lw_p33, List.forall_mem_cons.mpr ⟨lw_p34, List.forall_mem_cons.mpr ⟨lw_p35, List.forall_mem_cons.mpr ⟨lw_p36, List.forall_mem_cons.mpr ⟨lw_p37, List.forall_mem_cons.mpr ⟨lw_p38, List.forall_mem_cons.mpr ⟨lw_p39, List.forall_mem_cons.mpr ⟨lw_p40, List.forall_mem_cons.mpr ⟨lw_p41, List.forall_mem_cons.mpr ⟨lw_p42, List.forall_mem_cons.mpr ⟨lw_p43, List.forall_mem_cons.mpr ⟨lw_p44, List.forall_mem_cons.mpr ⟨lw_p45, List.forall_mem_cons.mpr ⟨lw_p46, List.forall_mem_cons.mpr ⟨lw_p47, fun _ h => absurd h List.not_mem_nil⟩⟩⟩⟩⟩⟩⟩⟩⟩⟩⟩⟩⟩⟩⟩⟩
theorem lw_p48 : lw_okq (⟨"MissionHouseModel", "fail", "(I)V"⟩, 106) := ⟨⟨by decide +kernel, by decide +kernel⟩, List.mem_of_getElem? (i := 1241) (by decide +kernel), List.mem_of_getElem? (i := 1654) (by decide +kernel), List.mem_of_getElem? (i := 1655) (by decide +kernel)⟩
theorem lw_p49 : lw_okq (⟨"MissionHouseModel", "need", "(I)V"⟩, 106) := ⟨⟨by decide +kernel, by decide +kernel⟩, List.mem_of_getElem? (i := 1241) (by decide +kernel), List.mem_of_getElem? (i := 1658) (by decide +kernel), List.mem_of_getElem? (i := 1659) (by decide +kernel)⟩
theorem lw_p50 : lw_okq (⟨"MissionHouseModel", "hasLeap", "(I)Z"⟩, 106) := ⟨⟨by decide +kernel, by decide +kernel⟩, List.mem_of_getElem? (i := 1241) (by decide +kernel), List.mem_of_getElem? (i := 1662) (by decide +kernel), List.mem_of_getElem? (i := 1663) (by decide +kernel)⟩
theorem lw_p51 : lw_okq (⟨"MissionHouseModel", "done", "()V"⟩, 106) := ⟨⟨by decide +kernel, by decide +kernel⟩, List.mem_of_getElem? (i := 1241) (by decide +kernel), List.mem_of_getElem? (i := 1666) (by decide +kernel), List.mem_of_getElem? (i := 1667) (by decide +kernel)⟩
theorem lw_p52 : lw_okq (⟨"MissionHouseModel", "firstSecond", "(I)I"⟩, 106) := ⟨⟨by decide +kernel, by decide +kernel⟩, List.mem_of_getElem? (i := 1241) (by decide +kernel), List.mem_of_getElem? (i := 1670) (by decide +kernel), List.mem_of_getElem? (i := 1671) (by decide +kernel)⟩
theorem lw_p53 : lw_okq (⟨"MissionHouseModel", "digit", "(II)V"⟩, 106) := ⟨⟨by decide +kernel, by decide +kernel⟩, List.mem_of_getElem? (i := 1241) (by decide +kernel), List.mem_of_getElem? (i := 1679) (by decide +kernel), List.mem_of_getElem? (i := 1680) (by decide +kernel)⟩
theorem lw_p54 : lw_okq (⟨"MissionHouseModel", "add", "(I)V"⟩, 106) := ⟨⟨by decide +kernel, by decide +kernel⟩, List.mem_of_getElem? (i := 1241) (by decide +kernel), List.mem_of_getElem? (i := 1683) (by decide +kernel), List.mem_of_getElem? (i := 1684) (by decide +kernel)⟩
theorem lw_p55 : lw_okq (⟨"MissionHouseModel", "sees", "(II)Z"⟩, 106) := ⟨⟨by decide +kernel, by decide +kernel⟩, List.mem_of_getElem? (i := 1241) (by decide +kernel), List.mem_of_getElem? (i := 1699) (by decide +kernel), List.mem_of_getElem? (i := 1700) (by decide +kernel)⟩
theorem lw_p56 : lw_okq (⟨"MissionHouseModel", "angle", "(I)I"⟩, 106) := ⟨⟨by decide +kernel, by decide +kernel⟩, List.mem_of_getElem? (i := 1241) (by decide +kernel), List.mem_of_getElem? (i := 1703) (by decide +kernel), List.mem_of_getElem? (i := 1704) (by decide +kernel)⟩
theorem lw_p57 : lw_okq (⟨"MissionHouseModel", "read", "(I)I"⟩, 106) := ⟨⟨by decide +kernel, by decide +kernel⟩, List.mem_of_getElem? (i := 1241) (by decide +kernel), List.mem_of_getElem? (i := 1729) (by decide +kernel), List.mem_of_getElem? (i := 1730) (by decide +kernel)⟩
theorem lw_p58 : lw_okq (⟨"MissionHouseModel", "line", "([Ljava/lang/String;)V"⟩, 106) := ⟨⟨by decide +kernel, by decide +kernel⟩, List.mem_of_getElem? (i := 1241) (by decide +kernel), List.mem_of_getElem? (i := 1746) (by decide +kernel), List.mem_of_getElem? (i := 1747) (by decide +kernel)⟩
theorem lw_p59 : lw_okq (⟨"MissionHouseModel", "wordOf", "([Ljava/lang/String;)I"⟩, 106) := ⟨⟨by decide +kernel, by decide +kernel⟩, List.mem_of_getElem? (i := 1241) (by decide +kernel), List.mem_of_getElem? (i := 1750) (by decide +kernel), List.mem_of_getElem? (i := 1751) (by decide +kernel)⟩
theorem lw_p60 : lw_okq (⟨"MissionHouseModel", "wordEnd", "()I"⟩, 106) := ⟨⟨by decide +kernel, by decide +kernel⟩, List.mem_of_getElem? (i := 1241) (by decide +kernel), List.mem_of_getElem? (i := 1754) (by decide +kernel), List.mem_of_getElem? (i := 1755) (by decide +kernel)⟩
theorem lw_p61 : lw_okq (⟨"MissionHouseModel", "behind", "(II)I"⟩, 106) := ⟨⟨by decide +kernel, by decide +kernel⟩, List.mem_of_getElem? (i := 1241) (by decide +kernel), List.mem_of_getElem? (i := 1763) (by decide +kernel), List.mem_of_getElem? (i := 1764) (by decide +kernel)⟩
theorem lw_p62 : lw_okq (⟨"MissionHouseModel", "whole", "(ZII)I"⟩, 106) := ⟨⟨by decide +kernel, by decide +kernel⟩, List.mem_of_getElem? (i := 1241) (by decide +kernel), List.mem_of_getElem? (i := 1767) (by decide +kernel), List.mem_of_getElem? (i := 1768) (by decide +kernel)⟩
theorem lw_p63 : lw_okq (⟨"MissionHouseModel", "condition", "(I)V"⟩, 106) := ⟨⟨by decide +kernel, by decide +kernel⟩, List.mem_of_getElem? (i := 1241) (by decide +kernel), List.mem_of_getElem? (i := 1771) (by decide +kernel), List.mem_of_getElem? (i := 1772) (by decide +kernel)⟩
def lw_privs_4 : List (MethodName × Nat) := [(⟨"MissionHouseModel", "fail", "(I)V"⟩, 106), (⟨"MissionHouseModel", "need", "(I)V"⟩, 106), (⟨"MissionHouseModel", "hasLeap", "(I)Z"⟩, 106), (⟨"MissionHouseModel", "done", "()V"⟩, 106), (⟨"MissionHouseModel", "firstSecond", "(I)I"⟩, 106), (⟨"MissionHouseModel", "digit", "(II)V"⟩, 106), (⟨"MissionHouseModel", "add", "(I)V"⟩, 106), (⟨"MissionHouseModel", "sees", "(II)Z"⟩, 106), (⟨"MissionHouseModel", "angle", "(I)I"⟩, 106), (⟨"MissionHouseModel", "read", "(I)I"⟩, 106), (⟨"MissionHouseModel", "line", "([Ljava/lang/String;)V"⟩, 106), (⟨"MissionHouseModel", "wordOf", "([Ljava/lang/String;)I"⟩, 106), (⟨"MissionHouseModel", "wordEnd", "()I"⟩, 106), (⟨"MissionHouseModel", "behind", "(II)I"⟩, 106), (⟨"MissionHouseModel", "whole", "(ZII)I"⟩, 106), (⟨"MissionHouseModel", "condition", "(I)V"⟩, 106)]
theorem lw_r4 : ∀ q ∈ lw_privs_4, lw_okq q := List.forall_mem_cons.mpr ⟨lw_p48, List.forall_mem_cons.mpr ⟨lw_p49, List.forall_mem_cons.mpr ⟨lw_p50, List.forall_mem_cons.mpr ⟨lw_p51, List.forall_mem_cons.mpr ⟨lw_p52, List.forall_mem_cons.mpr ⟨lw_p53, List.forall_mem_cons.mpr ⟨lw_p54, List.forall_mem_cons.mpr ⟨lw_p55, List.forall_mem_cons.mpr ⟨lw_p56, List.forall_mem_cons.mpr ⟨lw_p57, List.forall_mem_cons.mpr ⟨lw_p58, List.forall_mem_cons.mpr ⟨lw_p59, List.forall_mem_cons.mpr ⟨lw_p60, List.forall_mem_cons.mpr ⟨lw_p61, List.forall_mem_cons.mpr ⟨lw_p62, List.forall_mem_cons.mpr ⟨lw_p63, fun _ h => absurd h List.not_mem_nil⟩⟩⟩⟩⟩⟩⟩⟩⟩⟩⟩⟩⟩⟩⟩⟩
theorem lw_p64 : lw_okq (⟨"MissionHouseModel", "copyLine", "(II)V"⟩, 106) := ⟨⟨by decide +kernel, by decide +kernel⟩, List.mem_of_getElem? (i := 1241) (by decide +kernel), List.mem_of_getElem? (i := 1789) (by decide +kernel), List.mem_of_getElem? (i := 1790) (by decide +kernel)⟩
theorem lw_p65 : lw_okq (⟨"MissionHouseModel", "serve", "()V"⟩, 106) := ⟨⟨by decide +kernel, by decide +kernel⟩, List.mem_of_getElem? (i := 1241) (by decide +kernel), List.mem_of_getElem? (i := 1797) (by decide +kernel), List.mem_of_getElem? (i := 1798) (by decide +kernel)⟩
theorem lw_p66 : lw_okq (⟨"MissionHouseModel", "sunNow", "()I"⟩, 106) := ⟨⟨by decide +kernel, by decide +kernel⟩, List.mem_of_getElem? (i := 1241) (by decide +kernel), List.mem_of_getElem? (i := 1801) (by decide +kernel), List.mem_of_getElem? (i := 1802) (by decide +kernel)⟩
theorem lw_p67 : lw_okq (⟨"MissionHouseModel", "isShadow", "()Z"⟩, 106) := ⟨⟨by decide +kernel, by decide +kernel⟩, List.mem_of_getElem? (i := 1241) (by decide +kernel), List.mem_of_getElem? (i := 1805) (by decide +kernel), List.mem_of_getElem? (i := 1806) (by decide +kernel)⟩
theorem lw_p68 : lw_okq (⟨"MissionHouseModel", "mend", "()V"⟩, 106) := ⟨⟨by decide +kernel, by decide +kernel⟩, List.mem_of_getElem? (i := 1241) (by decide +kernel), List.mem_of_getElem? (i := 1809) (by decide +kernel), List.mem_of_getElem? (i := 1810) (by decide +kernel)⟩
theorem lw_p69 : lw_okq (⟨"MissionHouseModel", "starts", "()V"⟩, 106) := ⟨⟨by decide +kernel, by decide +kernel⟩, List.mem_of_getElem? (i := 1241) (by decide +kernel), List.mem_of_getElem? (i := 1816) (by decide +kernel), List.mem_of_getElem? (i := 1817) (by decide +kernel)⟩
theorem lw_p70 : lw_okq (⟨"MissionHouseModel", "begin", "(I)V"⟩, 106) := ⟨⟨by decide +kernel, by decide +kernel⟩, List.mem_of_getElem? (i := 1241) (by decide +kernel), List.mem_of_getElem? (i := 1820) (by decide +kernel), List.mem_of_getElem? (i := 1821) (by decide +kernel)⟩
theorem lw_p71 : lw_okq (⟨"MissionHouseModel", "goes", "(I)V"⟩, 106) := ⟨⟨by decide +kernel, by decide +kernel⟩, List.mem_of_getElem? (i := 1241) (by decide +kernel), List.mem_of_getElem? (i := 1824) (by decide +kernel), List.mem_of_getElem? (i := 1825) (by decide +kernel)⟩
theorem lw_p72 : lw_okq (⟨"MissionHouseModel", "holds", "(I)Z"⟩, 106) := ⟨⟨by decide +kernel, by decide +kernel⟩, List.mem_of_getElem? (i := 1241) (by decide +kernel), List.mem_of_getElem? (i := 1828) (by decide +kernel), List.mem_of_getElem? (i := 1829) (by decide +kernel)⟩
theorem lw_p73 : lw_okq (⟨"MissionHouseModel", "valueOf", "(I)I"⟩, 106) := ⟨⟨by decide +kernel, by decide +kernel⟩, List.mem_of_getElem? (i := 1241) (by decide +kernel), List.mem_of_getElem? (i := 1832) (by decide +kernel), List.mem_of_getElem? (i := 1833) (by decide +kernel)⟩
theorem lw_p74 : lw_okq (⟨"MissionHouseModel", "recorded", "()I"⟩, 106) := ⟨⟨by decide +kernel, by decide +kernel⟩, List.mem_of_getElem? (i := 1241) (by decide +kernel), List.mem_of_getElem? (i := 1836) (by decide +kernel), List.mem_of_getElem? (i := 1837) (by decide +kernel)⟩
theorem lw_p75 : lw_okq (⟨"MissionHouseModel", "isSeen", "()Z"⟩, 106) := ⟨⟨by decide +kernel, by decide +kernel⟩, List.mem_of_getElem? (i := 1241) (by decide +kernel), List.mem_of_getElem? (i := 1840) (by decide +kernel), List.mem_of_getElem? (i := 1841) (by decide +kernel)⟩
theorem lw_p76 : lw_okq (⟨"MissionHouseModel", "act", "(I)Z"⟩, 106) := ⟨⟨by decide +kernel, by decide +kernel⟩, List.mem_of_getElem? (i := 1241) (by decide +kernel), List.mem_of_getElem? (i := 1844) (by decide +kernel), List.mem_of_getElem? (i := 1845) (by decide +kernel)⟩
theorem lw_p77 : lw_okq (⟨"MissionHouseModel", "emit", "(I)V"⟩, 106) := ⟨⟨by decide +kernel, by decide +kernel⟩, List.mem_of_getElem? (i := 1241) (by decide +kernel), List.mem_of_getElem? (i := 1848) (by decide +kernel), List.mem_of_getElem? (i := 1849) (by decide +kernel)⟩
theorem lw_p78 : lw_okq (⟨"MissionHouseModel", "sort", "(I)I"⟩, 106) := ⟨⟨by decide +kernel, by decide +kernel⟩, List.mem_of_getElem? (i := 1241) (by decide +kernel), List.mem_of_getElem? (i := 1852) (by decide +kernel), List.mem_of_getElem? (i := 1853) (by decide +kernel)⟩
theorem lw_p79 : lw_okq (⟨"MissionHouseModel", "drop", "(I)V"⟩, 106) := ⟨⟨by decide +kernel, by decide +kernel⟩, List.mem_of_getElem? (i := 1241) (by decide +kernel), List.mem_of_getElem? (i := 1856) (by decide +kernel), List.mem_of_getElem? (i := 1857) (by decide +kernel)⟩
def lw_privs_5 : List (MethodName × Nat) := [(⟨"MissionHouseModel", "copyLine", "(II)V"⟩, 106), (⟨"MissionHouseModel", "serve", "()V"⟩, 106), (⟨"MissionHouseModel", "sunNow", "()I"⟩, 106), (⟨"MissionHouseModel", "isShadow", "()Z"⟩, 106), (⟨"MissionHouseModel", "mend", "()V"⟩, 106), (⟨"MissionHouseModel", "starts", "()V"⟩, 106), (⟨"MissionHouseModel", "begin", "(I)V"⟩, 106), (⟨"MissionHouseModel", "goes", "(I)V"⟩, 106), (⟨"MissionHouseModel", "holds", "(I)Z"⟩, 106), (⟨"MissionHouseModel", "valueOf", "(I)I"⟩, 106), (⟨"MissionHouseModel", "recorded", "()I"⟩, 106), (⟨"MissionHouseModel", "isSeen", "()Z"⟩, 106), (⟨"MissionHouseModel", "act", "(I)Z"⟩, 106), (⟨"MissionHouseModel", "emit", "(I)V"⟩, 106), (⟨"MissionHouseModel", "sort", "(I)I"⟩, 106), (⟨"MissionHouseModel", "drop", "(I)V"⟩, 106)]
theorem lw_r5 : ∀ q ∈ lw_privs_5, lw_okq q := List.forall_mem_cons.mpr ⟨lw_p64, List.forall_mem_cons.mpr ⟨lw_p65, List.forall_mem_cons.mpr ⟨lw_p66, List.forall_mem_cons.mpr ⟨lw_p67, List.forall_mem_cons.mpr ⟨lw_p68, List.forall_mem_cons.mpr ⟨lw_p69, List.forall_mem_cons.mpr ⟨lw_p70, List.forall_mem_cons.mpr ⟨lw_p71, List.forall_mem_cons.mpr ⟨lw_p72, List.forall_mem_cons.mpr ⟨lw_p73, List.forall_mem_cons.mpr ⟨lw_p74, List.forall_mem_cons.mpr ⟨lw_p75, List.forall_mem_cons.mpr ⟨lw_p76, List.forall_mem_cons.mpr ⟨lw_p77, List.forall_mem_cons.mpr ⟨lw_p78, List.forall_mem_cons.mpr ⟨lw_p79, fun _ h => absurd h List.not_mem_nil⟩⟩⟩⟩⟩⟩⟩⟩⟩⟩⟩⟩⟩⟩⟩⟩
theorem lw_p80 : lw_okq (⟨"MissionHouseModel", "goTo", "(I)V"⟩, 106) := ⟨⟨by decide +kernel, by decide +kernel⟩, List.mem_of_getElem? (i := 1241) (by decide +kernel), List.mem_of_getElem? (i := 1860) (by decide +kernel), List.mem_of_getElem? (i := 1861) (by decide +kernel)⟩
theorem lw_p81 : lw_okq (⟨"MissionHouseModel", "watch", "()V"⟩, 106) := ⟨⟨by decide +kernel, by decide +kernel⟩, List.mem_of_getElem? (i := 1241) (by decide +kernel), List.mem_of_getElem? (i := 1864) (by decide +kernel), List.mem_of_getElem? (i := 1865) (by decide +kernel)⟩
theorem lw_p82 : lw_okq (⟨"MissionHouseModel", "link", "()V"⟩, 106) := ⟨⟨by decide +kernel, by decide +kernel⟩, List.mem_of_getElem? (i := 1241) (by decide +kernel), List.mem_of_getElem? (i := 1868) (by decide +kernel), List.mem_of_getElem? (i := 1869) (by decide +kernel)⟩
theorem lw_p83 : lw_okq (⟨"MissionHouseModel", "shift", "()V"⟩, 106) := ⟨⟨by decide +kernel, by decide +kernel⟩, List.mem_of_getElem? (i := 1241) (by decide +kernel), List.mem_of_getElem? (i := 1896) (by decide +kernel), List.mem_of_getElem? (i := 1897) (by decide +kernel)⟩
theorem lw_p84 : lw_okq (⟨"MissionHouseModel", "pieces", "(I)I"⟩, 106) := ⟨⟨by decide +kernel, by decide +kernel⟩, List.mem_of_getElem? (i := 1241) (by decide +kernel), List.mem_of_getElem? (i := 1904) (by decide +kernel), List.mem_of_getElem? (i := 1905) (by decide +kernel)⟩
theorem lw_p85 : lw_okq (⟨"MissionHouseModel", "acknowledge", "(I)V"⟩, 106) := ⟨⟨by decide +kernel, by decide +kernel⟩, List.mem_of_getElem? (i := 1241) (by decide +kernel), List.mem_of_getElem? (i := 1908) (by decide +kernel), List.mem_of_getElem? (i := 1909) (by decide +kernel)⟩
theorem lw_p86 : lw_okq (⟨"MissionHouseModel", "ready", "(I)V"⟩, 106) := ⟨⟨by decide +kernel, by decide +kernel⟩, List.mem_of_getElem? (i := 1241) (by decide +kernel), List.mem_of_getElem? (i := 1925) (by decide +kernel), List.mem_of_getElem? (i := 1926) (by decide +kernel)⟩
theorem lw_p87 : lw_okq (⟨"MissionHouseModel", "areApart", "(II)Z"⟩, 106) := ⟨⟨by decide +kernel, by decide +kernel⟩, List.mem_of_getElem? (i := 1241) (by decide +kernel), List.mem_of_getElem? (i := 1949) (by decide +kernel), List.mem_of_getElem? (i := 1950) (by decide +kernel)⟩
def lw_privs_6 : List (MethodName × Nat) := [(⟨"MissionHouseModel", "goTo", "(I)V"⟩, 106), (⟨"MissionHouseModel", "watch", "()V"⟩, 106), (⟨"MissionHouseModel", "link", "()V"⟩, 106), (⟨"MissionHouseModel", "shift", "()V"⟩, 106), (⟨"MissionHouseModel", "pieces", "(I)I"⟩, 106), (⟨"MissionHouseModel", "acknowledge", "(I)V"⟩, 106), (⟨"MissionHouseModel", "ready", "(I)V"⟩, 106), (⟨"MissionHouseModel", "areApart", "(II)Z"⟩, 106)]
theorem lw_r6 : ∀ q ∈ lw_privs_6, lw_okq q := List.forall_mem_cons.mpr ⟨lw_p80, List.forall_mem_cons.mpr ⟨lw_p81, List.forall_mem_cons.mpr ⟨lw_p82, List.forall_mem_cons.mpr ⟨lw_p83, List.forall_mem_cons.mpr ⟨lw_p84, List.forall_mem_cons.mpr ⟨lw_p85, List.forall_mem_cons.mpr ⟨lw_p86, List.forall_mem_cons.mpr ⟨lw_p87, fun _ h => absurd h List.not_mem_nil⟩⟩⟩⟩⟩⟩⟩⟩
def lw_privs : List (MethodName × Nat) := lw_privs_1 ++ (lw_privs_2 ++ (lw_privs_3 ++ (lw_privs_4 ++ (lw_privs_5 ++ (lw_privs_6)))))
def lw_tbl : List Cond := k2_sels lw_privs ++ tables_1
theorem lw_privs_ok : ∀ q ∈ lw_privs, lw_okq q := by
  show ∀ q ∈ lw_privs_1 ++ (lw_privs_2 ++ (lw_privs_3 ++ (lw_privs_4 ++ (lw_privs_5 ++ (lw_privs_6))))), lw_okq q
  exact List.forall_mem_append.mpr ⟨lw_r1, List.forall_mem_append.mpr ⟨lw_r2, List.forall_mem_append.mpr ⟨lw_r3, List.forall_mem_append.mpr ⟨lw_r4, List.forall_mem_append.mpr ⟨lw_r5, lw_r6⟩⟩⟩⟩⟩

def RX0 : String := "MissionHouse$Board"
def TX0 : u_T := fun k => match k with
  | 0 => ("MissionHouse$Board", "course", "LMissionHouse$Orbit;", true)
  | 1 => ("MissionHouse$Board", "supply", "LMissionHouse$Power;", true)
  | 2 => ("MissionHouse$Board", "memory", "LMissionHouse$Memory;", true)
  | 3 => ("MissionHouse$Board", "link", "LMissionHouse$Link;", true)
  | 4 => ("MissionHouse$Board", "clock", "I", false)
  | 5 => ("MissionHouse$Board", "events", "I", false)
  | 6 => ("MissionHouse$Board", "mode", "I", false)
  | 7 => ("MissionHouse$Board", "modeRows", "[I", true)
  | 8 => ("MissionHouse$Board", "programs", "LMissionHouse$Lines;", true)
  | 9 => ("MissionHouse$Board", "drafts", "LMissionHouse$Lines;", true)
  | 10 => ("MissionHouse$Board", "next", "[I", true)
  | 11 => ("MissionHouse$Board", "waits", "[I", true)
  | 12 => ("MissionHouse$Board", "dueSeconds", "[I", true)
  | 13 => ("MissionHouse$Board", "duePrograms", "[I", true)
  | 14 => ("MissionHouse$Board", "dueCount", "I", false)
  | 15 => ("MissionHouse$Board", "conditions", "LMissionHouse$Lines;", true)
  | 16 => ("MissionHouse$Board", "monitorTicks", "[I", true)
  | 17 => ("MissionHouse$Board", "monitorActs", "[I", true)
  | 18 => ("MissionHouse$Board", "counted", "[I", true)
  | _ => ("MissionHouse$Board", "latestAct", "[I", true)
def tyX0 : Nat → FieldType := fun k => match k with
  | 0 => .object "MissionHouse$Orbit"
  | 1 => .object "MissionHouse$Power"
  | 2 => .object "MissionHouse$Memory"
  | 3 => .object "MissionHouse$Link"
  | 4 => .int
  | 5 => .int
  | 6 => .int
  | 7 => .array .int
  | 8 => .object "MissionHouse$Lines"
  | 9 => .object "MissionHouse$Lines"
  | 10 => .array .int
  | 11 => .array .int
  | 12 => .array .int
  | 13 => .array .int
  | 14 => .int
  | 15 => .object "MissionHouse$Lines"
  | 16 => .array .int
  | 17 => .array .int
  | 18 => .array .int
  | _ => .array .int
abbrev wsX00 : List Cond := u_ws RX0 TX0 20
theorem nmX0 : ∀ a, a < 20 → ∀ b, b < 20 → a ≠ b → (TX0 a).2.1 ≠ (TX0 b).2.1 := by decide +kernel
theorem tyX0_ok : ∀ k, k < 20 → parseFieldDescriptor (TX0 k).2.2.1 = some (tyX0 k) := by decide +kernel
abbrev cX0_init : ByteArray := prog_2_method_1_code
def yX0_init : MethodName := ⟨RX0, "<init>", "(LMissionHouse$Orbit;LMissionHouse$Power;LMissionHouse$Memory;LMissionHouse$Link;)V"⟩
abbrev cX0_doSecond : ByteArray := prog_2_method_2_code
def yX0_doSecond : MethodName := ⟨RX0, "doSecond", "()V"⟩
abbrev cX0_addDue : ByteArray := prog_2_method_3_code
def yX0_addDue : MethodName := ⟨RX0, "addDue", "(II)I"⟩
abbrev cX0_beginDue : ByteArray := prog_2_method_4_code
def yX0_beginDue : MethodName := ⟨RX0, "beginDue", "()V"⟩
abbrev cX0_install : ByteArray := prog_2_method_5_code
def yX0_install : MethodName := ⟨RX0, "install", "(ILMissionHouse$Lines;I)V"⟩
abbrev cX0_begin : ByteArray := prog_2_method_6_code
def yX0_begin : MethodName := ⟨RX0, "begin", "(I)V"⟩
abbrev cX0_stop : ByteArray := prog_2_method_7_code
def yX0_stop : MethodName := ⟨RX0, "stop", "(I)V"⟩
abbrev cX0_goTo : ByteArray := prog_2_method_8_code
def yX0_goTo : MethodName := ⟨RX0, "goTo", "(I)V"⟩
abbrev cX0_goOn : ByteArray := prog_2_method_9_code
def yX0_goOn : MethodName := ⟨RX0, "goOn", "(I)V"⟩
abbrev cX0_doLine : ByteArray := prog_2_method_10_code
def yX0_doLine : MethodName := ⟨RX0, "doLine", "(I)Z"⟩
abbrev cX0_decide : ByteArray := prog_2_method_11_code
def yX0_decide : MethodName := ⟨RX0, "decide", "(III)Z"⟩
abbrev cX0_failOf : ByteArray := prog_2_method_12_code
def yX0_failOf : MethodName := ⟨RX0, "failOf", "(I)V"⟩
abbrev cX0_judge : ByteArray := prog_2_method_13_code
def yX0_judge : MethodName := ⟨RX0, "judge", "(LMissionHouse$Lines;I)I"⟩
abbrev cX0_measure : ByteArray := prog_2_method_14_code
def yX0_measure : MethodName := ⟨RX0, "measure", "(I)I"⟩
abbrev cX0_perform : ByteArray := prog_2_method_15_code
def yX0_perform : MethodName := ⟨RX0, "perform", "(LMissionHouse$Lines;I)Z"⟩
abbrev cX0_add : ByteArray := prog_2_method_16_code
def yX0_add : MethodName := ⟨RX0, "add", "(II)Z"⟩
abbrev cX0_record : ByteArray := prog_2_method_17_code
def yX0_record : MethodName := ⟨RX0, "record", "(I)Z"⟩
abbrev cX0_setMonitor : ByteArray := prog_2_method_18_code
def yX0_setMonitor : MethodName := ⟨RX0, "setMonitor", "(IIILMissionHouse$Lines;)V"⟩
abbrev cX0_watch : ByteArray := prog_2_method_19_code
def yX0_watch : MethodName := ⟨RX0, "watch", "(I)V"⟩
abbrev cX0_act : ByteArray := prog_2_method_20_code
def yX0_act : MethodName := ⟨RX0, "act", "(I)V"⟩
abbrev cX0_takeCommand : ByteArray := prog_2_method_21_code
def yX0_takeCommand : MethodName := ⟨RX0, "takeCommand", "(ILMissionHouse$Lines;I)Z"⟩
abbrev cX0_ready : ByteArray := prog_2_method_22_code
def yX0_ready : MethodName := ⟨RX0, "ready", "(I)V"⟩
def RX1 : String := "MissionHouse$Calendar"
def TX1 : u_T := fun k => match k with
  | 0 => ("MissionHouse$Calendar", "leapDays", "[I", true)
  | _ => ("MissionHouse$Calendar", "leaps", "I", false)
def tyX1 : Nat → FieldType := fun k => match k with
  | 0 => .array .int
  | _ => .int
abbrev wsX10 : List Cond := u_ws RX1 TX1 2
theorem nmX1 : ∀ a, a < 2 → ∀ b, b < 2 → a ≠ b → (TX1 a).2.1 ≠ (TX1 b).2.1 := by decide +kernel
theorem tyX1_ok : ∀ k, k < 2 → parseFieldDescriptor (TX1 k).2.2.1 = some (tyX1 k) := by decide +kernel
abbrev cX1_init : ByteArray := prog_3_method_1_code
def yX1_init : MethodName := ⟨RX1, "<init>", "()V"⟩
abbrev cX1_addLeap : ByteArray := prog_3_method_2_code
def yX1_addLeap : MethodName := ⟨RX1, "addLeap", "(II)I"⟩
abbrev cX1_readDate : ByteArray := prog_3_method_3_code
def yX1_readDate : MethodName := ⟨RX1, "readDate", "(LMissionHouse$Tape;)I"⟩
abbrev cX1_hasSecond : ByteArray := prog_3_method_4_code
def yX1_hasSecond : MethodName := ⟨RX1, "hasSecond", "(I)Z"⟩
abbrev cX1_writeDate : ByteArray := prog_3_method_5_code
def yX1_writeDate : MethodName := ⟨RX1, "writeDate", "(I[I)I"⟩
abbrev cX1_writeDay : ByteArray := prog_3_method_6_code
def yX1_writeDay : MethodName := ⟨RX1, "writeDay", "(I[I)V"⟩
abbrev cX1_writeTwo : ByteArray := prog_3_method_7_code
def yX1_writeTwo : MethodName := ⟨RX1, "writeTwo", "(I[II)V"⟩
abbrev cX1_hasLeap : ByteArray := prog_3_method_8_code
def yX1_hasLeap : MethodName := ⟨RX1, "hasLeap", "(I)Z"⟩
abbrev cX1_leapsBefore : ByteArray := prog_3_method_9_code
def yX1_leapsBefore : MethodName := ⟨RX1, "leapsBefore", "(I)I"⟩
abbrev cX1_dayOf : ByteArray := prog_3_method_10_code
def yX1_dayOf : MethodName := ⟨RX1, "dayOf", "(III)I"⟩
abbrev cX1_daysIn : ByteArray := prog_3_method_11_code
def yX1_daysIn : MethodName := ⟨RX1, "daysIn", "(II)I"⟩
def RX2 : String := "MissionHouse$Ground"
def TX2 : u_T := fun k => match k with
  | 0 => ("MissionHouse$Ground", "gaps", "I", false)
  | 1 => ("MissionHouse$Ground", "bad", "I", false)
  | 2 => ("MissionHouse$Ground", "hasHeard", "Z", false)
  | 3 => ("MissionHouse$Ground", "latestCount", "I", false)
  | 4 => ("MissionHouse$Ground", "piece", "[I", true)
  | 5 => ("MissionHouse$Ground", "pieced", "I", false)
  | 6 => ("MissionHouse$Ground", "archive", "[I", true)
  | 7 => ("MissionHouse$Ground", "archived", "I", false)
  | 8 => ("MissionHouse$Ground", "kept", "LMissionHouse$Lines;", true)
  | 9 => ("MissionHouse$Ground", "keptCount", "I", false)
  | 10 => ("MissionHouse$Ground", "sent", "I", false)
  | _ => ("MissionHouse$Ground", "nextNumber", "I", false)
def tyX2 : Nat → FieldType := fun k => match k with
  | 0 => .int
  | 1 => .int
  | 2 => .boolean
  | 3 => .int
  | 4 => .array .int
  | 5 => .int
  | 6 => .array .int
  | 7 => .int
  | 8 => .object "MissionHouse$Lines"
  | 9 => .int
  | 10 => .int
  | _ => .int
abbrev wsX20 : List Cond := u_ws RX2 TX2 12
theorem nmX2 : ∀ a, a < 12 → ∀ b, b < 12 → a ≠ b → (TX2 a).2.1 ≠ (TX2 b).2.1 := by decide +kernel
theorem tyX2_ok : ∀ k, k < 12 → parseFieldDescriptor (TX2 k).2.2.1 = some (tyX2 k) := by decide +kernel
abbrev cX2_init : ByteArray := prog_4_method_1_code
def yX2_init : MethodName := ⟨RX2, "<init>", "()V"⟩
abbrev cX2_takeFrame : ByteArray := prog_4_method_2_code
def yX2_takeFrame : MethodName := ⟨RX2, "takeFrame", "([II)I"⟩
abbrev cX2_begin : ByteArray := prog_4_method_3_code
def yX2_begin : MethodName := ⟨RX2, "begin", "(II)I"⟩
abbrev cX2_pieceTogether : ByteArray := prog_4_method_4_code
def yX2_pieceTogether : MethodName := ⟨RX2, "pieceTogether", "([III)I"⟩
abbrev cX2_putInArchive : ByteArray := prog_4_method_5_code
def yX2_putInArchive : MethodName := ⟨RX2, "putInArchive", "()V"⟩
abbrev cX2_writePacket : ByteArray := prog_4_method_6_code
def yX2_writePacket : MethodName := ⟨RX2, "writePacket", "(I[I)I"⟩
abbrev cX2_isFull : ByteArray := prog_4_method_7_code
def yX2_isFull : MethodName := ⟨RX2, "isFull", "()Z"⟩
abbrev cX2_keep : ByteArray := prog_4_method_8_code
def yX2_keep : MethodName := ⟨RX2, "keep", "(LMissionHouse$Lines;)I"⟩
abbrev cX2_toSend : ByteArray := prog_4_method_9_code
def yX2_toSend : MethodName := ⟨RX2, "toSend", "()I"⟩
abbrev cX2_nextToSend : ByteArray := prog_4_method_10_code
def yX2_nextToSend : MethodName := ⟨RX2, "nextToSend", "()I"⟩
abbrev cX2_acknowledge : ByteArray := prog_4_method_11_code
def yX2_acknowledge : MethodName := ⟨RX2, "acknowledge", "(II)V"⟩
def RX3 : String := "MissionHouse$Lines"
def TX3 : u_T := fun k => match k with
  | 0 => ("MissionHouse$Lines", "rows", "I", true)
  | 1 => ("MissionHouse$Lines", "verb", "[I", true)
  | 2 => ("MissionHouse$Lines", "thing", "[I", true)
  | 3 => ("MissionHouse$Lines", "sign", "[I", true)
  | 4 => ("MissionHouse$Lines", "value", "[I", true)
  | 5 => ("MissionHouse$Lines", "target", "[I", true)
  | _ => ("MissionHouse$Lines", "draftRow", "[I", true)
def tyX3 : Nat → FieldType := fun k => match k with
  | 0 => .int
  | 1 => .array .int
  | 2 => .array .int
  | 3 => .array .int
  | 4 => .array .int
  | 5 => .array .int
  | _ => .array .int
abbrev wsX30 : List Cond := u_ws RX3 TX3 7
theorem nmX3 : ∀ a, a < 7 → ∀ b, b < 7 → a ≠ b → (TX3 a).2.1 ≠ (TX3 b).2.1 := by decide +kernel
theorem tyX3_ok : ∀ k, k < 7 → parseFieldDescriptor (TX3 k).2.2.1 = some (tyX3 k) := by decide +kernel
abbrev cX3_init : ByteArray := prog_5_method_1_code
def yX3_init : MethodName := ⟨RX3, "<init>", "(I)V"⟩
abbrev cX3_text : ByteArray := prog_5_method_2_code
def yX3_text : MethodName := ⟨RX3, "text", "(I)Ljava/lang/String;"⟩
abbrev cX3_thingText : ByteArray := prog_5_method_3_code
def yX3_thingText : MethodName := ⟨RX3, "thingText", "(I)Ljava/lang/String;"⟩
abbrev cX3_isThere : ByteArray := prog_5_method_4_code
def yX3_isThere : MethodName := ⟨RX3, "isThere", "(I)Z"⟩
abbrev cX3_countFrom : ByteArray := prog_5_method_5_code
def yX3_countFrom : MethodName := ⟨RX3, "countFrom", "(I)I"⟩
abbrev cX3_erase : ByteArray := prog_5_method_6_code
def yX3_erase : MethodName := ⟨RX3, "erase", "(II)V"⟩
abbrev cX3_copy : ByteArray := prog_5_method_7_code
def yX3_copy : MethodName := ⟨RX3, "copy", "(ILMissionHouse$Lines;I)V"⟩
abbrev cX3_readProgram : ByteArray := prog_5_method_8_code
def yX3_readProgram : MethodName := ⟨RX3, "readProgram", "(LMissionHouse$Tape;)I"⟩
abbrev cX3_readCommand : ByteArray := prog_5_method_9_code
def yX3_readCommand : MethodName := ⟨RX3, "readCommand", "(LMissionHouse$Tape;)V"⟩
abbrev cX3_readMonitor : ByteArray := prog_5_method_10_code
def yX3_readMonitor : MethodName := ⟨RX3, "readMonitor", "(LMissionHouse$Tape;)V"⟩
abbrev cX3_readLine : ByteArray := prog_5_method_11_code
def yX3_readLine : MethodName := ⟨RX3, "readLine", "(LMissionHouse$Tape;I)V"⟩
abbrev cX3_readRest : ByteArray := prog_5_method_12_code
def yX3_readRest : MethodName := ⟨RX3, "readRest", "(LMissionHouse$Tape;II)V"⟩
abbrev cX3_greatest : ByteArray := prog_5_method_13_code
def yX3_greatest : MethodName := ⟨RX3, "greatest", "(I)I"⟩
abbrev cX3_readCondition : ByteArray := prog_5_method_14_code
def yX3_readCondition : MethodName := ⟨RX3, "readCondition", "(LMissionHouse$Tape;I)V"⟩
def RX4 : String := "MissionHouse$Link"
def TX4 : u_T := fun k => match k with
  | 0 => ("MissionHouse$Link", "recorded", "[I", true)
  | 1 => ("MissionHouse$Link", "oldest", "[I", true)
  | 2 => ("MissionHouse$Link", "held", "[I", true)
  | 3 => ("MissionHouse$Link", "recordedBytes", "I", false)
  | 4 => ("MissionHouse$Link", "kindCounts", "[I", true)
  | 5 => ("MissionHouse$Link", "made", "[I", true)
  | 6 => ("MissionHouse$Link", "underWay", "[I", true)
  | 7 => ("MissionHouse$Link", "underWaySize", "I", false)
  | 8 => ("MissionHouse$Link", "underWayAt", "I", false)
  | 9 => ("MissionHouse$Link", "frames", "[I", true)
  | 10 => ("MissionHouse$Link", "firstFrame", "I", false)
  | 11 => ("MissionHouse$Link", "waiting", "I", false)
  | 12 => ("MissionHouse$Link", "frameCount", "I", false)
  | 13 => ("MissionHouse$Link", "awaited", "I", false)
  | _ => ("MissionHouse$Link", "flags", "I", false)
def tyX4 : Nat → FieldType := fun k => match k with
  | 0 => .array .int
  | 1 => .array .int
  | 2 => .array .int
  | 3 => .int
  | 4 => .array .int
  | 5 => .array .int
  | 6 => .array .int
  | 7 => .int
  | 8 => .int
  | 9 => .array .int
  | 10 => .int
  | 11 => .int
  | 12 => .int
  | 13 => .int
  | _ => .int
abbrev wsX40 : List Cond := u_ws RX4 TX4 15
theorem nmX4 : ∀ a, a < 15 → ∀ b, b < 15 → a ≠ b → (TX4 a).2.1 ≠ (TX4 b).2.1 := by decide +kernel
theorem tyX4_ok : ∀ k, k < 15 → parseFieldDescriptor (TX4 k).2.2.1 = some (tyX4 k) := by decide +kernel
abbrev cX4_init : ByteArray := prog_6_method_1_code
def yX4_init : MethodName := ⟨RX4, "<init>", "()V"⟩
abbrev cX4_recordedPackets : ByteArray := prog_6_method_2_code
def yX4_recordedPackets : MethodName := ⟨RX4, "recordedPackets", "()I"⟩
abbrev cX4_label : ByteArray := prog_6_method_3_code
def yX4_label : MethodName := ⟨RX4, "label", "(II)V"⟩
abbrev cX4_record : ByteArray := prog_6_method_4_code
def yX4_record : MethodName := ⟨RX4, "record", "()I"⟩
abbrev cX4_slot : ByteArray := prog_6_method_5_code
def yX4_slot : MethodName := ⟨RX4, "slot", "(II)I"⟩
abbrev cX4_lastClass : ByteArray := prog_6_method_6_code
def yX4_lastClass : MethodName := ⟨RX4, "lastClass", "()I"⟩
abbrev cX4_firstClass : ByteArray := prog_6_method_7_code
def yX4_firstClass : MethodName := ⟨RX4, "firstClass", "()I"⟩
abbrev cX4_takeOldest : ByteArray := prog_6_method_8_code
def yX4_takeOldest : MethodName := ⟨RX4, "takeOldest", "(II)V"⟩
abbrev cX4_sendFrame : ByteArray := prog_6_method_9_code
def yX4_sendFrame : MethodName := ⟨RX4, "sendFrame", "()V"⟩
abbrev cX4_fillData : ByteArray := prog_6_method_10_code
def yX4_fillData : MethodName := ⟨RX4, "fillData", "(I)I"⟩
abbrev cX4_startPacket : ByteArray := prog_6_method_11_code
def yX4_startPacket : MethodName := ⟨RX4, "startPacket", "(I)V"⟩
abbrev cX4_oldestFrame : ByteArray := prog_6_method_12_code
def yX4_oldestFrame : MethodName := ⟨RX4, "oldestFrame", "()I"⟩
abbrev cX4_dropFrame : ByteArray := prog_6_method_13_code
def yX4_dropFrame : MethodName := ⟨RX4, "dropFrame", "()V"⟩
abbrev cX4_checkOf : ByteArray := prog_6_method_14_code
def yX4_checkOf : MethodName := ⟨RX4, "checkOf", "([II)I"⟩
def RX5 : String := "MissionHouse$Memory"
def TX5 : u_T := fun k => match k with
  | 0 => ("MissionHouse$Memory", "words", "[I", true)
  | 1 => ("MissionHouse$Memory", "mended", "I", false)
  | _ => ("MissionHouse$Memory", "lost", "I", false)
def tyX5 : Nat → FieldType := fun k => match k with
  | 0 => .array .int
  | 1 => .int
  | _ => .int
abbrev wsX50 : List Cond := u_ws RX5 TX5 3
theorem nmX5 : ∀ a, a < 3 → ∀ b, b < 3 → a ≠ b → (TX5 a).2.1 ≠ (TX5 b).2.1 := by decide +kernel
theorem tyX5_ok : ∀ k, k < 3 → parseFieldDescriptor (TX5 k).2.2.1 = some (tyX5 k) := by decide +kernel
abbrev cX5_init : ByteArray := prog_7_method_1_code
def yX5_init : MethodName := ⟨RX5, "<init>", "()V"⟩
abbrev cX5_write : ByteArray := prog_7_method_2_code
def yX5_write : MethodName := ⟨RX5, "write", "(II)V"⟩
abbrev cX5_byteOf : ByteArray := prog_7_method_3_code
def yX5_byteOf : MethodName := ⟨RX5, "byteOf", "(I)I"⟩
abbrev cX5_mend : ByteArray := prog_7_method_4_code
def yX5_mend : MethodName := ⟨RX5, "mend", "(I)Z"⟩
abbrev cX5_encoded : ByteArray := prog_7_method_5_code
def yX5_encoded : MethodName := ⟨RX5, "encoded", "(I)I"⟩
abbrev cX5_corrected : ByteArray := prog_7_method_6_code
def yX5_corrected : MethodName := ⟨RX5, "corrected", "(I)I"⟩
abbrev cX5_decoded : ByteArray := prog_7_method_7_code
def yX5_decoded : MethodName := ⟨RX5, "decoded", "(I)I"⟩
def RX6 : String := "MissionHouse$Orbit"
def TX6 : u_T := fun k => match k with
  | 0 => ("MissionHouse$Orbit", "period", "I", false)
  | 1 => ("MissionHouse$Orbit", "phase", "I", false)
  | 2 => ("MissionHouse$Orbit", "shade", "I", false)
  | 3 => ("MissionHouse$Orbit", "width", "I", false)
  | 4 => ("MissionHouse$Orbit", "shadowNow", "Z", false)
  | 5 => ("MissionHouse$Orbit", "seenNow", "Z", false)
  | 6 => ("MissionHouse$Orbit", "arcFrom", "[I", true)
  | 7 => ("MissionHouse$Orbit", "arcWidth", "[I", true)
  | _ => ("MissionHouse$Orbit", "arcDrift", "[I", true)
def tyX6 : Nat → FieldType := fun k => match k with
  | 0 => .int
  | 1 => .int
  | 2 => .int
  | 3 => .int
  | 4 => .boolean
  | 5 => .boolean
  | 6 => .array .int
  | 7 => .array .int
  | _ => .array .int
abbrev wsX60 : List Cond := u_ws RX6 TX6 9
theorem nmX6 : ∀ a, a < 9 → ∀ b, b < 9 → a ≠ b → (TX6 a).2.1 ≠ (TX6 b).2.1 := by decide +kernel
theorem tyX6_ok : ∀ k, k < 9 → parseFieldDescriptor (TX6 k).2.2.1 = some (tyX6 k) := by decide +kernel
abbrev cX6_init : ByteArray := prog_8_method_1_code
def yX6_init : MethodName := ⟨RX6, "<init>", "()V"⟩
abbrev cX6_look : ByteArray := prog_8_method_2_code
def yX6_look : MethodName := ⟨RX6, "look", "(I)V"⟩
abbrev cX6_angle : ByteArray := prog_8_method_3_code
def yX6_angle : MethodName := ⟨RX6, "angle", "(I)I"⟩
abbrev cX6_turn : ByteArray := prog_8_method_4_code
def yX6_turn : MethodName := ⟨RX6, "turn", "(I)I"⟩
abbrev cX6_isInShadow : ByteArray := prog_8_method_5_code
def yX6_isInShadow : MethodName := ⟨RX6, "isInShadow", "(I)Z"⟩
abbrev cX6_isSeen : ByteArray := prog_8_method_6_code
def yX6_isSeen : MethodName := ⟨RX6, "isSeen", "(I)Z"⟩
abbrev cX6_inArc : ByteArray := prog_8_method_7_code
def yX6_inArc : MethodName := ⟨RX6, "inArc", "(III)I"⟩
abbrev cX6_firstSight : ByteArray := prog_8_method_8_code
def yX6_firstSight : MethodName := ⟨RX6, "firstSight", "(IIZ)I"⟩
abbrev cX6_whenPassed : ByteArray := prog_8_method_9_code
def yX6_whenPassed : MethodName := ⟨RX6, "whenPassed", "(II)I"⟩
def RX7 : String := "MissionHouse$Passes"
def TX7 : u_T := fun k => match k with
  | 0 => ("MissionHouse$Passes", "station", "[I", true)
  | 1 => ("MissionHouse$Passes", "from", "[I", true)
  | 2 => ("MissionHouse$Passes", "to", "[I", true)
  | 3 => ("MissionHouse$Passes", "worth", "[I", true)
  | 4 => ("MissionHouse$Passes", "clashes", "[I", true)
  | 5 => ("MissionHouse$Passes", "count", "I", false)
  | 6 => ("MissionHouse$Passes", "gap", "I", false)
  | 7 => ("MissionHouse$Passes", "isChosen", "Z", false)
  | 8 => ("MissionHouse$Passes", "best", "I", false)
  | _ => ("MissionHouse$Passes", "bestWorth", "I", false)
def tyX7 : Nat → FieldType := fun k => match k with
  | 0 => .array .int
  | 1 => .array .int
  | 2 => .array .int
  | 3 => .array .int
  | 4 => .array .int
  | 5 => .int
  | 6 => .int
  | 7 => .boolean
  | 8 => .int
  | _ => .int
abbrev wsX70 : List Cond := u_ws RX7 TX7 10
theorem nmX7 : ∀ a, a < 10 → ∀ b, b < 10 → a ≠ b → (TX7 a).2.1 ≠ (TX7 b).2.1 := by decide +kernel
theorem tyX7_ok : ∀ k, k < 10 → parseFieldDescriptor (TX7 k).2.2.1 = some (tyX7 k) := by decide +kernel
abbrev cX7_init : ByteArray := prog_9_method_1_code
def yX7_init : MethodName := ⟨RX7, "<init>", "()V"⟩
abbrev cX7_add : ByteArray := prog_9_method_2_code
def yX7_add : MethodName := ⟨RX7, "add", "(IIII)I"⟩
abbrev cX7_choose : ByteArray := prog_9_method_3_code
def yX7_choose : MethodName := ⟨RX7, "choose", "()V"⟩
abbrev cX7_findClashes : ByteArray := prog_9_method_4_code
def yX7_findClashes : MethodName := ⟨RX7, "findClashes", "()V"⟩
abbrev cX7_goTogether : ByteArray := prog_9_method_5_code
def yX7_goTogether : MethodName := ⟨RX7, "goTogether", "(II)Z"⟩
abbrev cX7_worthOf : ByteArray := prog_9_method_6_code
def yX7_worthOf : MethodName := ⟨RX7, "worthOf", "(I)I"⟩
abbrev cX7_isAhead : ByteArray := prog_9_method_7_code
def yX7_isAhead : MethodName := ⟨RX7, "isAhead", "(I)Z"⟩
def RX8 : String := "MissionHouse$Power"
def TX8 : u_T := fun k => match k with
  | 0 => ("MissionHouse$Power", "capacity", "I", false)
  | 1 => ("MissionHouse$Power", "battery", "I", false)
  | 2 => ("MissionHouse$Power", "sun", "I", false)
  | 3 => ("MissionHouse$Power", "light", "I", false)
  | 4 => ("MissionHouse$Power", "used", "I", false)
  | 5 => ("MissionHouse$Power", "units", "[I", true)
  | 6 => ("MissionHouse$Power", "rank", "[I", true)
  | 7 => ("MissionHouse$Power", "on", "[Z", true)
  | 8 => ("MissionHouse$Power", "isServed", "[Z", true)
  | _ => ("MissionHouse$Power", "order", "[I", true)
def tyX8 : Nat → FieldType := fun k => match k with
  | 0 => .int
  | 1 => .int
  | 2 => .int
  | 3 => .int
  | 4 => .int
  | 5 => .array .int
  | 6 => .array .int
  | 7 => .array .boolean
  | 8 => .array .boolean
  | _ => .array .int
abbrev wsX80 : List Cond := u_ws RX8 TX8 10
theorem nmX8 : ∀ a, a < 10 → ∀ b, b < 10 → a ≠ b → (TX8 a).2.1 ≠ (TX8 b).2.1 := by decide +kernel
theorem tyX8_ok : ∀ k, k < 10 → parseFieldDescriptor (TX8 k).2.2.1 = some (tyX8 k) := by decide +kernel
abbrev cX8_init : ByteArray := prog_10_method_1_code
def yX8_init : MethodName := ⟨RX8, "<init>", "()V"⟩
abbrev cX8_putInOrder : ByteArray := prog_10_method_2_code
def yX8_putInOrder : MethodName := ⟨RX8, "putInOrder", "()V"⟩
abbrev cX8_switchTo : ByteArray := prog_10_method_3_code
def yX8_switchTo : MethodName := ⟨RX8, "switchTo", "(I)V"⟩
abbrev cX8_serve : ByteArray := prog_10_method_4_code
def yX8_serve : MethodName := ⟨RX8, "serve", "(Z)I"⟩
def RX9 : String := "MissionHouse$Sky"
def TX9 : u_T := fun k => match k with
  | 0 => ("MissionHouse$Sky", "barred", "[Z", true)
  | 1 => ("MissionHouse$Sky", "distance", "[I", true)
  | _ => ("MissionHouse$Sky", "queue", "[I", true)
def tyX9 : Nat → FieldType := fun k => match k with
  | 0 => .array .boolean
  | 1 => .array .int
  | _ => .array .int
abbrev wsX90 : List Cond := u_ws RX9 TX9 3
theorem nmX9 : ∀ a, a < 3 → ∀ b, b < 3 → a ≠ b → (TX9 a).2.1 ≠ (TX9 b).2.1 := by decide +kernel
theorem tyX9_ok : ∀ k, k < 3 → parseFieldDescriptor (TX9 k).2.2.1 = some (tyX9 k) := by decide +kernel
abbrev cX9_init : ByteArray := prog_11_method_1_code
def yX9_init : MethodName := ⟨RX9, "<init>", "()V"⟩
abbrev cX9_neighbour : ByteArray := prog_11_method_2_code
def yX9_neighbour : MethodName := ⟨RX9, "neighbour", "(II)I"⟩
abbrev cX9_turnsTo : ByteArray := prog_11_method_3_code
def yX9_turnsTo : MethodName := ⟨RX9, "turnsTo", "(II)I"⟩
abbrev cX9_writeTurns : ByteArray := prog_11_method_4_code
def yX9_writeTurns : MethodName := ⟨RX9, "writeTurns", "(II[I)V"⟩
abbrev cX9_isNearer : ByteArray := prog_11_method_5_code
def yX9_isNearer : MethodName := ⟨RX9, "isNearer", "(II)Z"⟩
def RX10 : String := "MissionHouse$Tape"
def TX10 : u_T := fun k => match k with
  | 0 => ("MissionHouse$Tape", "bytes", "[I", true)
  | 1 => ("MissionHouse$Tape", "size", "I", false)
  | 2 => ("MissionHouse$Tape", "at", "I", false)
  | _ => ("MissionHouse$Tape", "fault", "I", false)
def tyX10 : Nat → FieldType := fun k => match k with
  | 0 => .array .int
  | 1 => .int
  | 2 => .int
  | _ => .int
abbrev wsX100 : List Cond := u_ws RX10 TX10 4
theorem nmX10 : ∀ a, a < 4 → ∀ b, b < 4 → a ≠ b → (TX10 a).2.1 ≠ (TX10 b).2.1 := by decide +kernel
theorem tyX10_ok : ∀ k, k < 4 → parseFieldDescriptor (TX10 k).2.2.1 = some (tyX10 k) := by decide +kernel
abbrev cX10_init : ByteArray := prog_12_method_1_code
def yX10_init : MethodName := ⟨RX10, "<init>", "()V"⟩
abbrev cX10_append : ByteArray := prog_12_method_2_code
def yX10_append : MethodName := ⟨RX10, "append", "(I)V"⟩
abbrev cX10_open : ByteArray := prog_12_method_3_code
def yX10_open : MethodName := ⟨RX10, "open", "()V"⟩
abbrev cX10_isRight : ByteArray := prog_12_method_4_code
def yX10_isRight : MethodName := ⟨RX10, "isRight", "()Z"⟩
abbrev cX10_isAtEnd : ByteArray := prog_12_method_5_code
def yX10_isAtEnd : MethodName := ⟨RX10, "isAtEnd", "()Z"⟩
abbrev cX10_closes : ByteArray := prog_12_method_6_code
def yX10_closes : MethodName := ⟨RX10, "closes", "()Z"⟩
abbrev cX10_wrong : ByteArray := prog_12_method_7_code
def yX10_wrong : MethodName := ⟨RX10, "wrong", "()I"⟩
abbrev cX10_byteAt : ByteArray := prog_12_method_8_code
def yX10_byteAt : MethodName := ⟨RX10, "byteAt", "(I)I"⟩
abbrev cX10_isDigit : ByteArray := prog_12_method_9_code
def yX10_isDigit : MethodName := ⟨RX10, "isDigit", "(I)Z"⟩
abbrev cX10_isLetter : ByteArray := prog_12_method_10_code
def yX10_isLetter : MethodName := ⟨RX10, "isLetter", "(I)Z"⟩
abbrev cX10_skip : ByteArray := prog_12_method_11_code
def yX10_skip : MethodName := ⟨RX10, "skip", "(I)V"⟩
abbrev cX10_fixed : ByteArray := prog_12_method_12_code
def yX10_fixed : MethodName := ⟨RX10, "fixed", "(III)I"⟩
abbrev cX10_number : ByteArray := prog_12_method_13_code
def yX10_number : MethodName := ⟨RX10, "number", "(II)I"⟩
abbrev cX10_integer : ByteArray := prog_12_method_14_code
def yX10_integer : MethodName := ⟨RX10, "integer", "(II)I"⟩
abbrev cX10_digits : ByteArray := prog_12_method_15_code
def yX10_digits : MethodName := ⟨RX10, "digits", "()I"⟩
abbrev cX10_inRange : ByteArray := prog_12_method_16_code
def yX10_inRange : MethodName := ⟨RX10, "inRange", "(IIII)I"⟩
abbrev cX10_compareSign : ByteArray := prog_12_method_17_code
def yX10_compareSign : MethodName := ⟨RX10, "compareSign", "()I"⟩
abbrev cX10_told : ByteArray := prog_12_method_18_code
def yX10_told : MethodName := ⟨RX10, "told", "(II)I"⟩
abbrev cX10_wordEnd : ByteArray := prog_12_method_19_code
def yX10_wordEnd : MethodName := ⟨RX10, "wordEnd", "()I"⟩
abbrev cX10_reads : ByteArray := prog_12_method_20_code
def yX10_reads : MethodName := ⟨RX10, "reads", "(Ljava/lang/String;I)Z"⟩
def RX11 : String := "MissionHouse"
def TX11 : u_T := fun k => match k with
  | 0 => ("MissionHouse", "tape", "LMissionHouse$Tape;", true)
  | 1 => ("MissionHouse", "reading", "LMissionHouse$Lines;", true)
  | 2 => ("MissionHouse", "outBytes", "[I", true)
  | 3 => ("MissionHouse", "outSize", "I", false)
  | 4 => ("MissionHouse", "calendar", "LMissionHouse$Calendar;", true)
  | 5 => ("MissionHouse", "course", "LMissionHouse$Orbit;", true)
  | 6 => ("MissionHouse", "supply", "LMissionHouse$Power;", true)
  | 7 => ("MissionHouse", "memory", "LMissionHouse$Memory;", true)
  | 8 => ("MissionHouse", "link", "LMissionHouse$Link;", true)
  | 9 => ("MissionHouse", "board", "LMissionHouse$Board;", true)
  | 10 => ("MissionHouse", "control", "LMissionHouse$Ground;", true)
  | 11 => ("MissionHouse", "passes", "LMissionHouse$Passes;", true)
  | _ => ("MissionHouse", "sky", "LMissionHouse$Sky;", true)
def tyX11 : Nat → FieldType := fun k => match k with
  | 0 => .object "MissionHouse$Tape"
  | 1 => .object "MissionHouse$Lines"
  | 2 => .array .int
  | 3 => .int
  | 4 => .object "MissionHouse$Calendar"
  | 5 => .object "MissionHouse$Orbit"
  | 6 => .object "MissionHouse$Power"
  | 7 => .object "MissionHouse$Memory"
  | 8 => .object "MissionHouse$Link"
  | 9 => .object "MissionHouse$Board"
  | 10 => .object "MissionHouse$Ground"
  | 11 => .object "MissionHouse$Passes"
  | _ => .object "MissionHouse$Sky"
abbrev wsX110 : List Cond := u_ws RX11 TX11 13
theorem nmX11 : ∀ a, a < 13 → ∀ b, b < 13 → a ≠ b → (TX11 a).2.1 ≠ (TX11 b).2.1 := by decide +kernel
theorem tyX11_ok : ∀ k, k < 13 → parseFieldDescriptor (TX11 k).2.2.1 = some (tyX11 k) := by decide +kernel
abbrev cX11_init : ByteArray := prog_1_method_1_code
def yX11_init : MethodName := ⟨RX11, "<init>", "()V"⟩
abbrev cX11_feed : ByteArray := prog_1_method_2_code
def yX11_feed : MethodName := ⟨RX11, "feed", "(IIIII)I"⟩
abbrev cX11_end : ByteArray := prog_1_method_3_code
def yX11_end : MethodName := ⟨RX11, "end", "(I)I"⟩
abbrev cX11_out : ByteArray := prog_1_method_4_code
def yX11_out : MethodName := ⟨RX11, "out", "(I)I"⟩
abbrev cX11_leap : ByteArray := prog_1_method_5_code
def yX11_leap : MethodName := ⟨RX11, "leap", "(II)I"⟩
abbrev cX11_date : ByteArray := prog_1_method_6_code
def yX11_date : MethodName := ⟨RX11, "date", "()I"⟩
abbrev cX11_written : ByteArray := prog_1_method_7_code
def yX11_written : MethodName := ⟨RX11, "written", "(I)I"⟩
abbrev cX11_orbit : ByteArray := prog_1_method_8_code
def yX11_orbit : MethodName := ⟨RX11, "orbit", "(IIII)I"⟩
abbrev cX11_station : ByteArray := prog_1_method_9_code
def yX11_station : MethodName := ⟨RX11, "station", "(IIII)I"⟩
abbrev cX11_sight : ByteArray := prog_1_method_10_code
def yX11_sight : MethodName := ⟨RX11, "sight", "(IZ)I"⟩
abbrev cX11_power : ByteArray := prog_1_method_11_code
def yX11_power : MethodName := ⟨RX11, "power", "(II)I"⟩
abbrev cX11_load : ByteArray := prog_1_method_12_code
def yX11_load : MethodName := ⟨RX11, "load", "(III)I"⟩
abbrev cX11_program : ByteArray := prog_1_method_13_code
def yX11_program : MethodName := ⟨RX11, "program", "(I)I"⟩
abbrev cX11_due : ByteArray := prog_1_method_14_code
def yX11_due : MethodName := ⟨RX11, "due", "(II)I"⟩
abbrev cX11_mode : ByteArray := prog_1_method_15_code
def yX11_mode : MethodName := ⟨RX11, "mode", "(III)I"⟩
abbrev cX11_monitor : ByteArray := prog_1_method_16_code
def yX11_monitor : MethodName := ⟨RX11, "monitor", "(III)I"⟩
abbrev cX11_flip : ByteArray := prog_1_method_17_code
def yX11_flip : MethodName := ⟨RX11, "flip", "(II)I"⟩
abbrev cX11_tick : ByteArray := prog_1_method_18_code
def yX11_tick : MethodName := ⟨RX11, "tick", "(I)I"⟩
abbrev cX11_ship : ByteArray := prog_1_method_19_code
def yX11_ship : MethodName := ⟨RX11, "ship", "(I)I"⟩
abbrev cX11_served : ByteArray := prog_1_method_20_code
def yX11_served : MethodName := ⟨RX11, "served", "(II)I"⟩
abbrev cX11_runs : ByteArray := prog_1_method_21_code
def yX11_runs : MethodName := ⟨RX11, "runs", "(II)I"⟩
abbrev cX11_word : ByteArray := prog_1_method_22_code
def yX11_word : MethodName := ⟨RX11, "word", "(II)I"⟩
abbrev cX11_noise : ByteArray := prog_1_method_23_code
def yX11_noise : MethodName := ⟨RX11, "noise", "(II)I"⟩
abbrev cX11_lose : ByteArray := prog_1_method_24_code
def yX11_lose : MethodName := ⟨RX11, "lose", "()I"⟩
abbrev cX11_receive : ByteArray := prog_1_method_25_code
def yX11_receive : MethodName := ⟨RX11, "receive", "()I"⟩
abbrev cX11_packet : ByteArray := prog_1_method_26_code
def yX11_packet : MethodName := ⟨RX11, "packet", "(I)I"⟩
abbrev cX11_command : ByteArray := prog_1_method_27_code
def yX11_command : MethodName := ⟨RX11, "command", "()I"⟩
abbrev cX11_send : ByteArray := prog_1_method_28_code
def yX11_send : MethodName := ⟨RX11, "send", "(I)I"⟩
abbrev cX11_ground : ByteArray := prog_1_method_29_code
def yX11_ground : MethodName := ⟨RX11, "ground", "(I)I"⟩
abbrev cX11_pass : ByteArray := prog_1_method_30_code
def yX11_pass : MethodName := ⟨RX11, "pass", "(IIII)I"⟩
abbrev cX11_gap : ByteArray := prog_1_method_31_code
def yX11_gap : MethodName := ⟨RX11, "gap", "(I)I"⟩
abbrev cX11_clear : ByteArray := prog_1_method_32_code
def yX11_clear : MethodName := ⟨RX11, "clear", "()I"⟩
abbrev cX11_best : ByteArray := prog_1_method_33_code
def yX11_best : MethodName := ⟨RX11, "best", "(I)I"⟩
abbrev cX11_bar : ByteArray := prog_1_method_34_code
def yX11_bar : MethodName := ⟨RX11, "bar", "(IIZ)I"⟩
abbrev cX11_way : ByteArray := prog_1_method_35_code
def yX11_way : MethodName := ⟨RX11, "way", "(IIII)I"⟩
abbrev cX11_within : ByteArray := prog_1_method_36_code
def yX11_within : MethodName := ⟨RX11, "within", "(III)Z"⟩
abbrev cX11_bit : ByteArray := prog_1_method_37_code
def yX11_bit : MethodName := ⟨RX11, "bit", "(Z)I"⟩
abbrev cX11_isDegree : ByteArray := prog_1_method_38_code
def yX11_isDegree : MethodName := ⟨RX11, "isDegree", "(I)Z"⟩
abbrev cX11_isStation : ByteArray := prog_1_method_39_code
def yX11_isStation : MethodName := ⟨RX11, "isStation", "(I)Z"⟩
abbrev cX11_isLoad : ByteArray := prog_1_method_40_code
def yX11_isLoad : MethodName := ⟨RX11, "isLoad", "(I)Z"⟩
abbrev cX11_isProgram : ByteArray := prog_1_method_41_code
def yX11_isProgram : MethodName := ⟨RX11, "isProgram", "(I)Z"⟩
abbrev cX11_isWord : ByteArray := prog_1_method_42_code
def yX11_isWord : MethodName := ⟨RX11, "isWord", "(I)Z"⟩
abbrev cX11_isField : ByteArray := prog_1_method_43_code
def yX11_isField : MethodName := ⟨RX11, "isField", "(II)Z"⟩
def RX12 : String := "MissionHouseModel"
def TX12 : u_T := fun k => match k with
  | 0 => ("MissionHouseModel", "tape", "[I", true)
  | 1 => ("MissionHouseModel", "text", "[I", true)
  | 2 => ("MissionHouseModel", "out", "[I", true)
  | 3 => ("MissionHouseModel", "taped", "I", false)
  | 4 => ("MissionHouseModel", "size", "I", false)
  | 5 => ("MissionHouseModel", "next", "I", false)
  | 6 => ("MissionHouseModel", "wrong", "I", false)
  | 7 => ("MissionHouseModel", "written", "I", false)
  | 8 => ("MissionHouseModel", "leapDay", "[I", true)
  | 9 => ("MissionHouseModel", "leaps", "I", false)
  | 10 => ("MissionHouseModel", "clock", "I", false)
  | 11 => ("MissionHouseModel", "period", "I", false)
  | 12 => ("MissionHouseModel", "phase", "I", false)
  | 13 => ("MissionHouseModel", "shade", "I", false)
  | 14 => ("MissionHouseModel", "wide", "I", false)
  | 15 => ("MissionHouseModel", "arcFrom", "[I", true)
  | 16 => ("MissionHouseModel", "arcWide", "[I", true)
  | 17 => ("MissionHouseModel", "drift", "[I", true)
  | 18 => ("MissionHouseModel", "capacity", "I", false)
  | 19 => ("MissionHouseModel", "battery", "I", false)
  | 20 => ("MissionHouseModel", "sun", "I", false)
  | 21 => ("MissionHouseModel", "used", "I", false)
  | 22 => ("MissionHouseModel", "events", "I", false)
  | 23 => ("MissionHouseModel", "modeNow", "I", false)
  | 24 => ("MissionHouseModel", "units", "[I", true)
  | 25 => ("MissionHouseModel", "rank", "[I", true)
  | 26 => ("MissionHouseModel", "on", "[Z", true)
  | 27 => ("MissionHouseModel", "served", "[Z", true)
  | 28 => ("MissionHouseModel", "words", "[I", true)
  | 29 => ("MissionHouseModel", "mended", "I", false)
  | 30 => ("MissionHouseModel", "lost", "I", false)
  | 31 => ("MissionHouseModel", "verbs", "[Ljava/lang/String;", true)
  | 32 => ("MissionHouseModel", "lineVerbs", "[Ljava/lang/String;", true)
  | 33 => ("MissionHouseModel", "things", "[Ljava/lang/String;", true)
  | 34 => ("MissionHouseModel", "cells", "[Ljava/lang/String;", true)
  | 35 => ("MissionHouseModel", "gos", "[Ljava/lang/String;", true)
  | 36 => ("MissionHouseModel", "verb", "[I", true)
  | 37 => ("MissionHouseModel", "what", "[I", true)
  | 38 => ("MissionHouseModel", "value", "[I", true)
  | 39 => ("MissionHouseModel", "thing", "[I", true)
  | 40 => ("MissionHouseModel", "sign", "[I", true)
  | 41 => ("MissionHouseModel", "than", "[I", true)
  | 42 => ("MissionHouseModel", "draft", "[I", true)
  | 43 => ("MissionHouseModel", "draftWhat", "[I", true)
  | 44 => ("MissionHouseModel", "draftValue", "[I", true)
  | 45 => ("MissionHouseModel", "draftThing", "[I", true)
  | 46 => ("MissionHouseModel", "draftSign", "[I", true)
  | 47 => ("MissionHouseModel", "draftThan", "[I", true)
  | 48 => ("MissionHouseModel", "lines", "[I", true)
  | 49 => ("MissionHouseModel", "where", "[I", true)
  | 50 => ("MissionHouseModel", "waits", "[I", true)
  | 51 => ("MissionHouseModel", "freshVerb", "[I", true)
  | 52 => ("MissionHouseModel", "freshWhat", "[I", true)
  | 53 => ("MissionHouseModel", "freshValue", "[I", true)
  | 54 => ("MissionHouseModel", "freshThing", "[I", true)
  | 55 => ("MissionHouseModel", "freshSign", "[I", true)
  | 56 => ("MissionHouseModel", "freshThan", "[I", true)
  | 57 => ("MissionHouseModel", "isLost", "Z", false)
  | 58 => ("MissionHouseModel", "modeLoads", "[I", true)
  | 59 => ("MissionHouseModel", "modePrograms", "[I", true)
  | 60 => ("MissionHouseModel", "dueAt", "[I", true)
  | 61 => ("MissionHouseModel", "dueWhat", "[I", true)
  | 62 => ("MissionHouseModel", "dues", "I", false)
  | 63 => ("MissionHouseModel", "wants", "[I", true)
  | 64 => ("MissionHouseModel", "does", "[I", true)
  | 65 => ("MissionHouseModel", "counted", "[I", true)
  | 66 => ("MissionHouseModel", "acted", "[I", true)
  | 67 => ("MissionHouseModel", "set", "[Z", true)
  | 68 => ("MissionHouseModel", "rec", "[I", true)
  | 69 => ("MissionHouseModel", "recSize", "[I", true)
  | 70 => ("MissionHouseModel", "kindCount", "[I", true)
  | 71 => ("MissionHouseModel", "under", "[I", true)
  | 72 => ("MissionHouseModel", "recMany", "I", false)
  | 73 => ("MissionHouseModel", "underSize", "I", false)
  | 74 => ("MissionHouseModel", "underAt", "I", false)
  | 75 => ("MissionHouseModel", "packet", "[I", true)
  | 76 => ("MissionHouseModel", "frames", "[I", true)
  | 77 => ("MissionHouseModel", "frame", "[I", true)
  | 78 => ("MissionHouseModel", "frameMany", "I", false)
  | 79 => ("MissionHouseModel", "frameCount", "I", false)
  | 80 => ("MissionHouseModel", "flags", "I", false)
  | 81 => ("MissionHouseModel", "awaited", "I", false)
  | 82 => ("MissionHouseModel", "gaps", "I", false)
  | 83 => ("MissionHouseModel", "badFrames", "I", false)
  | 84 => ("MissionHouseModel", "latest", "I", false)
  | 85 => ("MissionHouseModel", "pieced", "I", false)
  | 86 => ("MissionHouseModel", "wantedSize", "I", false)
  | 87 => ("MissionHouseModel", "archived", "I", false)
  | 88 => ("MissionHouseModel", "keptMany", "I", false)
  | 89 => ("MissionHouseModel", "sent", "I", false)
  | 90 => ("MissionHouseModel", "number", "I", false)
  | 91 => ("MissionHouseModel", "piece", "[I", true)
  | 92 => ("MissionHouseModel", "archive", "[I", true)
  | 93 => ("MissionHouseModel", "archiveSize", "[I", true)
  | 94 => ("MissionHouseModel", "keptNumber", "[I", true)
  | 95 => ("MissionHouseModel", "draftOf", "[I", true)
  | 96 => ("MissionHouseModel", "draftLine", "[I", true)
  | 97 => ("MissionHouseModel", "inner", "[I", true)
  | 98 => ("MissionHouseModel", "passStation", "[I", true)
  | 99 => ("MissionHouseModel", "passFrom", "[I", true)
  | 100 => ("MissionHouseModel", "passTo", "[I", true)
  | 101 => ("MissionHouseModel", "worth", "[I", true)
  | 102 => ("MissionHouseModel", "passes", "I", false)
  | 103 => ("MissionHouseModel", "gap", "I", false)
  | 104 => ("MissionHouseModel", "barred", "[Z", true)
  | _ => ("MissionHouseModel", "far", "[I", true)
def tyX12 : Nat → FieldType := fun k => match k with
  | 0 => .array .int
  | 1 => .array .int
  | 2 => .array .int
  | 3 => .int
  | 4 => .int
  | 5 => .int
  | 6 => .int
  | 7 => .int
  | 8 => .array .int
  | 9 => .int
  | 10 => .int
  | 11 => .int
  | 12 => .int
  | 13 => .int
  | 14 => .int
  | 15 => .array .int
  | 16 => .array .int
  | 17 => .array .int
  | 18 => .int
  | 19 => .int
  | 20 => .int
  | 21 => .int
  | 22 => .int
  | 23 => .int
  | 24 => .array .int
  | 25 => .array .int
  | 26 => .array .boolean
  | 27 => .array .boolean
  | 28 => .array .int
  | 29 => .int
  | 30 => .int
  | 31 => .array (.object "java/lang/String")
  | 32 => .array (.object "java/lang/String")
  | 33 => .array (.object "java/lang/String")
  | 34 => .array (.object "java/lang/String")
  | 35 => .array (.object "java/lang/String")
  | 36 => .array .int
  | 37 => .array .int
  | 38 => .array .int
  | 39 => .array .int
  | 40 => .array .int
  | 41 => .array .int
  | 42 => .array .int
  | 43 => .array .int
  | 44 => .array .int
  | 45 => .array .int
  | 46 => .array .int
  | 47 => .array .int
  | 48 => .array .int
  | 49 => .array .int
  | 50 => .array .int
  | 51 => .array .int
  | 52 => .array .int
  | 53 => .array .int
  | 54 => .array .int
  | 55 => .array .int
  | 56 => .array .int
  | 57 => .boolean
  | 58 => .array .int
  | 59 => .array .int
  | 60 => .array .int
  | 61 => .array .int
  | 62 => .int
  | 63 => .array .int
  | 64 => .array .int
  | 65 => .array .int
  | 66 => .array .int
  | 67 => .array .boolean
  | 68 => .array .int
  | 69 => .array .int
  | 70 => .array .int
  | 71 => .array .int
  | 72 => .int
  | 73 => .int
  | 74 => .int
  | 75 => .array .int
  | 76 => .array .int
  | 77 => .array .int
  | 78 => .int
  | 79 => .int
  | 80 => .int
  | 81 => .int
  | 82 => .int
  | 83 => .int
  | 84 => .int
  | 85 => .int
  | 86 => .int
  | 87 => .int
  | 88 => .int
  | 89 => .int
  | 90 => .int
  | 91 => .array .int
  | 92 => .array .int
  | 93 => .array .int
  | 94 => .array .int
  | 95 => .array .int
  | 96 => .array .int
  | 97 => .array .int
  | 98 => .array .int
  | 99 => .array .int
  | 100 => .array .int
  | 101 => .array .int
  | 102 => .int
  | 103 => .int
  | 104 => .array .boolean
  | _ => .array .int
abbrev wsX120 : List Cond := u_ws RX12 TX12 106
theorem nmX12 : ∀ a, a < 106 → ∀ b, b < 106 → a ≠ b → (TX12 a).2.1 ≠ (TX12 b).2.1 := by decide +kernel
theorem tyX12_ok : ∀ k, k < 106 → parseFieldDescriptor (TX12 k).2.2.1 = some (tyX12 k) := by decide +kernel
abbrev cX12_init : ByteArray := prog_14_method_1_code
def yX12_init : MethodName := ⟨RX12, "<init>", "()V"⟩
abbrev cX12_four : ByteArray := prog_14_method_2_code
def yX12_four : MethodName := ⟨RX12, "four", "(I)V"⟩
abbrev cX12_feed : ByteArray := prog_14_method_3_code
def yX12_feed : MethodName := ⟨RX12, "feed", "(IIIII)I"⟩
abbrev cX12_end : ByteArray := prog_14_method_4_code
def yX12_end : MethodName := ⟨RX12, "end", "(I)I"⟩
abbrev cX12_out : ByteArray := prog_14_method_5_code
def yX12_out : MethodName := ⟨RX12, "out", "(I)I"⟩
abbrev cX12_take : ByteArray := prog_14_method_6_code
def yX12_take : MethodName := ⟨RX12, "take", "()V"⟩
abbrev cX12_here : ByteArray := prog_14_method_7_code
def yX12_here : MethodName := ⟨RX12, "here", "()I"⟩
abbrev cX12_bad : ByteArray := prog_14_method_8_code
def yX12_bad : MethodName := ⟨RX12, "bad", "()Z"⟩
abbrev cX12_fail : ByteArray := prog_14_method_9_code
def yX12_fail : MethodName := ⟨RX12, "fail", "(I)V"⟩
abbrev cX12_need : ByteArray := prog_14_method_10_code
def yX12_need : MethodName := ⟨RX12, "need", "(I)V"⟩
abbrev cX12_done : ByteArray := prog_14_method_11_code
def yX12_done : MethodName := ⟨RX12, "done", "()V"⟩
abbrev cX12_is : ByteArray := prog_14_method_12_code
def yX12_is : MethodName := ⟨RX12, "is", "(III)Z"⟩
abbrev cX12_isDigit : ByteArray := prog_14_method_13_code
def yX12_isDigit : MethodName := ⟨RX12, "isDigit", "(I)Z"⟩
abbrev cX12_isSmall : ByteArray := prog_14_method_14_code
def yX12_isSmall : MethodName := ⟨RX12, "isSmall", "(I)Z"⟩
abbrev cX12_whole : ByteArray := prog_14_method_15_code
def yX12_whole : MethodName := ⟨RX12, "whole", "(ZII)I"⟩
abbrev cX12_behind : ByteArray := prog_14_method_16_code
def yX12_behind : MethodName := ⟨RX12, "behind", "(II)I"⟩
abbrev cX12_wordEnd : ByteArray := prog_14_method_17_code
def yX12_wordEnd : MethodName := ⟨RX12, "wordEnd", "()I"⟩
abbrev cX12_wordOf : ByteArray := prog_14_method_18_code
def yX12_wordOf : MethodName := ⟨RX12, "wordOf", "([Ljava/lang/String;)I"⟩
abbrev cX12_isLong : ByteArray := prog_14_method_19_code
def yX12_isLong : MethodName := ⟨RX12, "isLong", "(I)Z"⟩
abbrev cX12_days : ByteArray := prog_14_method_20_code
def yX12_days : MethodName := ⟨RX12, "days", "(II)I"⟩
abbrev cX12_dayOf : ByteArray := prog_14_method_21_code
def yX12_dayOf : MethodName := ⟨RX12, "dayOf", "(II)I"⟩
abbrev cX12_leap : ByteArray := prog_14_method_22_code
def yX12_leap : MethodName := ⟨RX12, "leap", "(II)I"⟩
abbrev cX12_hasLeap : ByteArray := prog_14_method_23_code
def yX12_hasLeap : MethodName := ⟨RX12, "hasLeap", "(I)Z"⟩
abbrev cX12_firstSecond : ByteArray := prog_14_method_24_code
def yX12_firstSecond : MethodName := ⟨RX12, "firstSecond", "(I)I"⟩
abbrev cX12_digits : ByteArray := prog_14_method_25_code
def yX12_digits : MethodName := ⟨RX12, "digits", "(III)I"⟩
abbrev cX12_date : ByteArray := prog_14_method_26_code
def yX12_date : MethodName := ⟨RX12, "date", "()I"⟩
abbrev cX12_digit : ByteArray := prog_14_method_27_code
def yX12_digit : MethodName := ⟨RX12, "digit", "(II)V"⟩
abbrev cX12_add : ByteArray := prog_14_method_28_code
def yX12_add : MethodName := ⟨RX12, "add", "(I)V"⟩
abbrev cX12_written : ByteArray := prog_14_method_29_code
def yX12_written : MethodName := ⟨RX12, "written", "(I)I"⟩
abbrev cX12_orbit : ByteArray := prog_14_method_30_code
def yX12_orbit : MethodName := ⟨RX12, "orbit", "(IIII)I"⟩
abbrev cX12_station : ByteArray := prog_14_method_31_code
def yX12_station : MethodName := ⟨RX12, "station", "(IIII)I"⟩
abbrev cX12_angle : ByteArray := prog_14_method_32_code
def yX12_angle : MethodName := ⟨RX12, "angle", "(I)I"⟩
abbrev cX12_round : ByteArray := prog_14_method_33_code
def yX12_round : MethodName := ⟨RX12, "round", "(J)I"⟩
abbrev cX12_isShadow : ByteArray := prog_14_method_34_code
def yX12_isShadow : MethodName := ⟨RX12, "isShadow", "()Z"⟩
abbrev cX12_sees : ByteArray := prog_14_method_35_code
def yX12_sees : MethodName := ⟨RX12, "sees", "(II)Z"⟩
abbrev cX12_isSeen : ByteArray := prog_14_method_36_code
def yX12_isSeen : MethodName := ⟨RX12, "isSeen", "()Z"⟩
abbrev cX12_sight : ByteArray := prog_14_method_37_code
def yX12_sight : MethodName := ⟨RX12, "sight", "(IZ)I"⟩
abbrev cX12_power : ByteArray := prog_14_method_38_code
def yX12_power : MethodName := ⟨RX12, "power", "(II)I"⟩
abbrev cX12_load : ByteArray := prog_14_method_39_code
def yX12_load : MethodName := ⟨RX12, "load", "(III)I"⟩
abbrev cX12_sunNow : ByteArray := prog_14_method_40_code
def yX12_sunNow : MethodName := ⟨RX12, "sunNow", "()I"⟩
abbrev cX12_serve : ByteArray := prog_14_method_41_code
def yX12_serve : MethodName := ⟨RX12, "serve", "()V"⟩
abbrev cX12_places : ByteArray := prog_14_method_42_code
def yX12_places : MethodName := ⟨RX12, "places", "(I)I"⟩
abbrev cX12_odd : ByteArray := prog_14_method_43_code
def yX12_odd : MethodName := ⟨RX12, "odd", "(I)I"⟩
abbrev cX12_encoded : ByteArray := prog_14_method_44_code
def yX12_encoded : MethodName := ⟨RX12, "encoded", "(I)I"⟩
abbrev cX12_plain : ByteArray := prog_14_method_45_code
def yX12_plain : MethodName := ⟨RX12, "plain", "(I)I"⟩
abbrev cX12_read : ByteArray := prog_14_method_46_code
def yX12_read : MethodName := ⟨RX12, "read", "(I)I"⟩
abbrev cX12_mend : ByteArray := prog_14_method_47_code
def yX12_mend : MethodName := ⟨RX12, "mend", "()V"⟩
abbrev cX12_flip : ByteArray := prog_14_method_48_code
def yX12_flip : MethodName := ⟨RX12, "flip", "(II)I"⟩
abbrev cX12_word : ByteArray := prog_14_method_49_code
def yX12_word : MethodName := ⟨RX12, "word", "(II)I"⟩
abbrev cX12_condition : ByteArray := prog_14_method_50_code
def yX12_condition : MethodName := ⟨RX12, "condition", "(I)V"⟩
abbrev cX12_line : ByteArray := prog_14_method_51_code
def yX12_line : MethodName := ⟨RX12, "line", "([Ljava/lang/String;)V"⟩
abbrev cX12_copyLine : ByteArray := prog_14_method_52_code
def yX12_copyLine : MethodName := ⟨RX12, "copyLine", "(II)V"⟩
abbrev cX12_program : ByteArray := prog_14_method_53_code
def yX12_program : MethodName := ⟨RX12, "program", "(I)I"⟩
abbrev cX12_valueOf : ByteArray := prog_14_method_54_code
def yX12_valueOf : MethodName := ⟨RX12, "valueOf", "(I)I"⟩
abbrev cX12_holds : ByteArray := prog_14_method_55_code
def yX12_holds : MethodName := ⟨RX12, "holds", "(I)Z"⟩
abbrev cX12_mode : ByteArray := prog_14_method_56_code
def yX12_mode : MethodName := ⟨RX12, "mode", "(III)I"⟩
abbrev cX12_goTo : ByteArray := prog_14_method_57_code
def yX12_goTo : MethodName := ⟨RX12, "goTo", "(I)V"⟩
abbrev cX12_begin : ByteArray := prog_14_method_58_code
def yX12_begin : MethodName := ⟨RX12, "begin", "(I)V"⟩
abbrev cX12_act : ByteArray := prog_14_method_59_code
def yX12_act : MethodName := ⟨RX12, "act", "(I)Z"⟩
abbrev cX12_goes : ByteArray := prog_14_method_60_code
def yX12_goes : MethodName := ⟨RX12, "goes", "(I)V"⟩
abbrev cX12_due : ByteArray := prog_14_method_61_code
def yX12_due : MethodName := ⟨RX12, "due", "(II)I"⟩
abbrev cX12_starts : ByteArray := prog_14_method_62_code
def yX12_starts : MethodName := ⟨RX12, "starts", "()V"⟩
abbrev cX12_monitor : ByteArray := prog_14_method_63_code
def yX12_monitor : MethodName := ⟨RX12, "monitor", "(III)I"⟩
abbrev cX12_watch : ByteArray := prog_14_method_64_code
def yX12_watch : MethodName := ⟨RX12, "watch", "()V"⟩
abbrev cX12_recorded : ByteArray := prog_14_method_65_code
def yX12_recorded : MethodName := ⟨RX12, "recorded", "()I"⟩
abbrev cX12_drop : ByteArray := prog_14_method_66_code
def yX12_drop : MethodName := ⟨RX12, "drop", "(I)V"⟩
abbrev cX12_sort : ByteArray := prog_14_method_67_code
def yX12_sort : MethodName := ⟨RX12, "sort", "(I)I"⟩
abbrev cX12_emit : ByteArray := prog_14_method_68_code
def yX12_emit : MethodName := ⟨RX12, "emit", "(I)V"⟩
abbrev cX12_check : ByteArray := prog_14_method_69_code
def yX12_check : MethodName := ⟨RX12, "check", "([II)I"⟩
abbrev cX12_link : ByteArray := prog_14_method_70_code
def yX12_link : MethodName := ⟨RX12, "link", "()V"⟩
abbrev cX12_tick : ByteArray := prog_14_method_71_code
def yX12_tick : MethodName := ⟨RX12, "tick", "(I)I"⟩
abbrev cX12_ship : ByteArray := prog_14_method_72_code
def yX12_ship : MethodName := ⟨RX12, "ship", "(I)I"⟩
abbrev cX12_served : ByteArray := prog_14_method_73_code
def yX12_served : MethodName := ⟨RX12, "served", "(II)I"⟩
abbrev cX12_runs : ByteArray := prog_14_method_74_code
def yX12_runs : MethodName := ⟨RX12, "runs", "(II)I"⟩
abbrev cX12_noise : ByteArray := prog_14_method_75_code
def yX12_noise : MethodName := ⟨RX12, "noise", "(II)I"⟩
abbrev cX12_shift : ByteArray := prog_14_method_76_code
def yX12_shift : MethodName := ⟨RX12, "shift", "()V"⟩
abbrev cX12_lose : ByteArray := prog_14_method_77_code
def yX12_lose : MethodName := ⟨RX12, "lose", "()I"⟩
abbrev cX12_receive : ByteArray := prog_14_method_78_code
def yX12_receive : MethodName := ⟨RX12, "receive", "()I"⟩
abbrev cX12_pieces : ByteArray := prog_14_method_79_code
def yX12_pieces : MethodName := ⟨RX12, "pieces", "(I)I"⟩
abbrev cX12_packet : ByteArray := prog_14_method_80_code
def yX12_packet : MethodName := ⟨RX12, "packet", "(I)I"⟩
abbrev cX12_acknowledge : ByteArray := prog_14_method_81_code
def yX12_acknowledge : MethodName := ⟨RX12, "acknowledge", "(I)V"⟩
abbrev cX12_command : ByteArray := prog_14_method_82_code
def yX12_command : MethodName := ⟨RX12, "command", "()I"⟩
abbrev cX12_send : ByteArray := prog_14_method_83_code
def yX12_send : MethodName := ⟨RX12, "send", "(I)I"⟩
abbrev cX12_ready : ByteArray := prog_14_method_84_code
def yX12_ready : MethodName := ⟨RX12, "ready", "(I)V"⟩
abbrev cX12_ground : ByteArray := prog_14_method_85_code
def yX12_ground : MethodName := ⟨RX12, "ground", "(I)I"⟩
abbrev cX12_pass : ByteArray := prog_14_method_86_code
def yX12_pass : MethodName := ⟨RX12, "pass", "(IIII)I"⟩
abbrev cX12_gap : ByteArray := prog_14_method_87_code
def yX12_gap : MethodName := ⟨RX12, "gap", "(I)I"⟩
abbrev cX12_clear : ByteArray := prog_14_method_88_code
def yX12_clear : MethodName := ⟨RX12, "clear", "()I"⟩
abbrev cX12_areApart : ByteArray := prog_14_method_89_code
def yX12_areApart : MethodName := ⟨RX12, "areApart", "(II)Z"⟩
abbrev cX12_best : ByteArray := prog_14_method_90_code
def yX12_best : MethodName := ⟨RX12, "best", "(I)I"⟩
abbrev cX12_isField : ByteArray := prog_14_method_91_code
def yX12_isField : MethodName := ⟨RX12, "isField", "(II)Z"⟩
abbrev cX12_bar : ByteArray := prog_14_method_92_code
def yX12_bar : MethodName := ⟨RX12, "bar", "(IIZ)I"⟩
abbrev cX12_beside : ByteArray := prog_14_method_93_code
def yX12_beside : MethodName := ⟨RX12, "beside", "(II)I"⟩
abbrev cX12_way : ByteArray := prog_14_method_94_code
def yX12_way : MethodName := ⟨RX12, "way", "(IIII)I"⟩
def RJ6 : String := "java/lang/Integer"
abbrev cJ6_bitCount_0f7a4 : ByteArray := prog_15_method_49_code
def yJ6_bitCount_0f7a4 : MethodName := ⟨RJ6, "bitCount", "(I)I"⟩
def RJ9 : String := "java/lang/Math"
abbrev cJ9_max_7cf53 : ByteArray := prog_16_method_65_code
def yJ9_max_7cf53 : MethodName := ⟨RJ9, "max", "(II)I"⟩
abbrev cJ9_min_7cf53 : ByteArray := prog_16_method_69_code
def yJ9_min_7cf53 : MethodName := ⟨RJ9, "min", "(II)I"⟩
def RJ0 : String := "java/lang/String"
abbrev cJ0_length_8abf5 : ByteArray := prog_17_method_54_code
def yJ0_length_8abf5 : MethodName := ⟨RJ0, "length", "()I"⟩
abbrev cJ0_charAt_5068e : ByteArray := prog_17_method_56_code
def yJ0_charAt_5068e : MethodName := ⟨RJ0, "charAt", "(I)C"⟩
abbrev cJ0_coder_7d493 : ByteArray := prog_17_method_152_code
def yJ0_coder_7d493 : MethodName := ⟨RJ0, "coder", "()B"⟩
abbrev cJ0_isLatin1_aae02 : ByteArray := prog_17_method_154_code
def yJ0_isLatin1_aae02 : MethodName := ⟨RJ0, "isLatin1", "()Z"⟩
abbrev cJ0_checkIndex_df160 : ByteArray := prog_17_method_155_code
def yJ0_checkIndex_df160 : MethodName := ⟨RJ0, "checkIndex", "(II)V"⟩
def RJ1 : String := "java/lang/StringLatin1"
abbrev cJ1_charAt_3b067 : ByteArray := prog_18_method_2_code
def yJ1_charAt_3b067 : MethodName := ⟨RJ1, "charAt", "([BI)C"⟩
def RJ2 : String := "java/lang/StringUTF16"
abbrev cJ2_getChar_3b067 : ByteArray := prog_19_method_5_code
def yJ2_getChar_3b067 : MethodName := ⟨RJ2, "getChar", "([BI)C"⟩
abbrev cJ2_length_9d52b : ByteArray := prog_19_method_6_code
def yJ2_length_9d52b : MethodName := ⟨RJ2, "length", "([B)I"⟩
abbrev cJ2_charAt_3b067 : ByteArray := prog_19_method_83_code
def yJ2_charAt_3b067 : MethodName := ⟨RJ2, "charAt", "([BI)C"⟩
abbrev cJ2_checkIndex_2214a : ByteArray := prog_19_method_91_code
def yJ2_checkIndex_2214a : MethodName := ⟨RJ2, "checkIndex", "(I[B)V"⟩
def RJ10 : String := "java/lang/System"
def RJ7 : String := "java/util/Arrays"
abbrev cJ7_fill_53178 : ByteArray := prog_21_method_103_code
def yJ7_fill_53178 : MethodName := ⟨RJ7, "fill", "([II)V"⟩
def RJ3 : String := "jdk/internal/util/Preconditions"
abbrev cJ3_checkIndex_8e157 : ByteArray := prog_22_method_11_code
def yJ3_checkIndex_8e157 : MethodName := ⟨RJ3, "checkIndex", "(IILjava/util/function/BiFunction;)I"⟩
def RL : String := "MissionHouseLaw"
abbrev cL_law : ByteArray := code
def yL_law : MethodName := ⟨RL, "law", "([I)Z"⟩
