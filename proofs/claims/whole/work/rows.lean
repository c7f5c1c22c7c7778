section
-- ===== PART A: goes FIRST, ahead of the names: the tables' words, and 'selects' of the private methods out of them =====
/-- a private method of a class that the tables say can be made, by its rows of tables_1 -/
def lw_okq (q : MethodName × Nat) : Prop := (q.1.cls ≠ "java/lang/invoke/MethodHandle" ∧ q.1.cls ≠ "java/lang/invoke/VarHandle") ∧ Cond.instantiable q.1.cls q.2 ∈ tables_1 ∧ Cond.privateMethod q.1 ∈ tables_1 ∧ Cond.instanceMethod q.1 ∈ tables_1
theorem lw_p0 : lw_okq (⟨"NobodysTuesday$Course", "recall", "(I)V"⟩, 6) := ⟨⟨by decide +kernel, by decide +kernel⟩, List.mem_of_getElem? (i := 149) (by decide +kernel), List.mem_of_getElem? (i := 303) (by decide +kernel), List.mem_of_getElem? (i := 304) (by decide +kernel)⟩
theorem lw_p1 : lw_okq (⟨"NobodysTuesday$Course", "comes", "(II)Z"⟩, 6) := ⟨⟨by decide +kernel, by decide +kernel⟩, List.mem_of_getElem? (i := 149) (by decide +kernel), List.mem_of_getElem? (i := 329) (by decide +kernel), List.mem_of_getElem? (i := 330) (by decide +kernel)⟩
theorem lw_p2 : lw_okq (⟨"NobodysTuesday$Course", "hatsSeen", "(I)I"⟩, 6) := ⟨⟨by decide +kernel, by decide +kernel⟩, List.mem_of_getElem? (i := 149) (by decide +kernel), List.mem_of_getElem? (i := 339) (by decide +kernel), List.mem_of_getElem? (i := 340) (by decide +kernel)⟩
theorem lw_p3 : lw_okq (⟨"NobodysTuesday$Turns", "comesAt", "(LNobodysTuesday$Club;II)Z"⟩, 2) := ⟨⟨by decide +kernel, by decide +kernel⟩, List.mem_of_getElem? (i := 175) (by decide +kernel), List.mem_of_getElem? (i := 387) (by decide +kernel), List.mem_of_getElem? (i := 388) (by decide +kernel)⟩
theorem lw_p4 : lw_okq (⟨"java/lang/Throwable", "fillInStackTrace", "(I)Ljava/lang/Throwable;"⟩, 6) := ⟨⟨by decide +kernel, by decide +kernel⟩, List.mem_of_getElem? (i := 479) (by decide +kernel), List.mem_of_getElem? (i := 477) (by decide +kernel), List.mem_of_getElem? (i := 478) (by decide +kernel)⟩
theorem lw_p5 : lw_okq (⟨"NobodysTuesday$Reader", "advance", "()V"⟩, 9) := ⟨⟨by decide +kernel, by decide +kernel⟩, List.mem_of_getElem? (i := 111) (by decide +kernel), List.mem_of_getElem? (i := 512) (by decide +kernel), List.mem_of_getElem? (i := 513) (by decide +kernel)⟩
theorem lw_p6 : lw_okq (⟨"NobodysTuesday$Reader", "readLine", "()Z"⟩, 9) := ⟨⟨by decide +kernel, by decide +kernel⟩, List.mem_of_getElem? (i := 111) (by decide +kernel), List.mem_of_getElem? (i := 522) (by decide +kernel), List.mem_of_getElem? (i := 523) (by decide +kernel)⟩
theorem lw_p7 : lw_okq (⟨"NobodysTuesday$Reader", "isWord", "(Ljava/lang/String;)Z"⟩, 9) := ⟨⟨by decide +kernel, by decide +kernel⟩, List.mem_of_getElem? (i := 111) (by decide +kernel), List.mem_of_getElem? (i := 527) (by decide +kernel), List.mem_of_getElem? (i := 528) (by decide +kernel)⟩
theorem lw_p8 : lw_okq (⟨"NobodysTuesday$Reader", "readMember", "()Z"⟩, 9) := ⟨⟨by decide +kernel, by decide +kernel⟩, List.mem_of_getElem? (i := 111) (by decide +kernel), List.mem_of_getElem? (i := 579) (by decide +kernel), List.mem_of_getElem? (i := 580) (by decide +kernel)⟩
theorem lw_p9 : lw_okq (⟨"NobodysTuesday$Reader", "refuse", "(I)Z"⟩, 9) := ⟨⟨by decide +kernel, by decide +kernel⟩, List.mem_of_getElem? (i := 111) (by decide +kernel), List.mem_of_getElem? (i := 583) (by decide +kernel), List.mem_of_getElem? (i := 584) (by decide +kernel)⟩
theorem lw_p10 : lw_okq (⟨"NobodysTuesday$Reader", "ruleHere", "()I"⟩, 9) := ⟨⟨by decide +kernel, by decide +kernel⟩, List.mem_of_getElem? (i := 111) (by decide +kernel), List.mem_of_getElem? (i := 587) (by decide +kernel), List.mem_of_getElem? (i := 588) (by decide +kernel)⟩
theorem lw_p11 : lw_okq (⟨"NobodysTuesday$Reader", "refuseMisfit", "()Z"⟩, 9) := ⟨⟨by decide +kernel, by decide +kernel⟩, List.mem_of_getElem? (i := 111) (by decide +kernel), List.mem_of_getElem? (i := 605) (by decide +kernel), List.mem_of_getElem? (i := 606) (by decide +kernel)⟩
theorem lw_p12 : lw_okq (⟨"NobodysTuesday$Reader", "takeNumber", "(II)I"⟩, 9) := ⟨⟨by decide +kernel, by decide +kernel⟩, List.mem_of_getElem? (i := 111) (by decide +kernel), List.mem_of_getElem? (i := 613) (by decide +kernel), List.mem_of_getElem? (i := 614) (by decide +kernel)⟩
theorem lw_p13 : lw_okq (⟨"NobodysTuesday$Reader", "takeSemicolon", "()Z"⟩, 9) := ⟨⟨by decide +kernel, by decide +kernel⟩, List.mem_of_getElem? (i := 111) (by decide +kernel), List.mem_of_getElem? (i := 623) (by decide +kernel), List.mem_of_getElem? (i := 624) (by decide +kernel)⟩
theorem lw_p14 : lw_okq (⟨"NobodysTuesday", "requireMember", "(I)V"⟩, 12) := ⟨⟨by decide +kernel, by decide +kernel⟩, List.mem_of_getElem? (i := 24) (by decide +kernel), List.mem_of_getElem? (i := 642) (by decide +kernel), List.mem_of_getElem? (i := 643) (by decide +kernel)⟩
theorem lw_p15 : lw_okq (⟨"NobodysTuesday", "requireRoomForWeek", "()V"⟩, 12) := ⟨⟨by decide +kernel, by decide +kernel⟩, List.mem_of_getElem? (i := 24) (by decide +kernel), List.mem_of_getElem? (i := 680) (by decide +kernel), List.mem_of_getElem? (i := 681) (by decide +kernel)⟩
def lw_privs_1 : List (MethodName × Nat) := [(⟨"NobodysTuesday$Course", "recall", "(I)V"⟩, 6), (⟨"NobodysTuesday$Course", "comes", "(II)Z"⟩, 6), (⟨"NobodysTuesday$Course", "hatsSeen", "(I)I"⟩, 6), (⟨"NobodysTuesday$Turns", "comesAt", "(LNobodysTuesday$Club;II)Z"⟩, 2), (⟨"java/lang/Throwable", "fillInStackTrace", "(I)Ljava/lang/Throwable;"⟩, 6), (⟨"NobodysTuesday$Reader", "advance", "()V"⟩, 9), (⟨"NobodysTuesday$Reader", "readLine", "()Z"⟩, 9), (⟨"NobodysTuesday$Reader", "isWord", "(Ljava/lang/String;)Z"⟩, 9), (⟨"NobodysTuesday$Reader", "readMember", "()Z"⟩, 9), (⟨"NobodysTuesday$Reader", "refuse", "(I)Z"⟩, 9), (⟨"NobodysTuesday$Reader", "ruleHere", "()I"⟩, 9), (⟨"NobodysTuesday$Reader", "refuseMisfit", "()Z"⟩, 9), (⟨"NobodysTuesday$Reader", "takeNumber", "(II)I"⟩, 9), (⟨"NobodysTuesday$Reader", "takeSemicolon", "()Z"⟩, 9), (⟨"NobodysTuesday", "requireMember", "(I)V"⟩, 12), (⟨"NobodysTuesday", "requireRoomForWeek", "()V"⟩, 12)]
theorem lw_r1 : ∀ q ∈ lw_privs_1, lw_okq q := List.forall_mem_cons.mpr ⟨lw_p0, List.forall_mem_cons.mpr ⟨lw_p1, List.forall_mem_cons.mpr ⟨lw_p2, List.forall_mem_cons.mpr ⟨lw_p3, List.forall_mem_cons.mpr ⟨lw_p4, List.forall_mem_cons.mpr ⟨lw_p5, List.forall_mem_cons.mpr ⟨lw_p6, List.forall_mem_cons.mpr ⟨lw_p7, List.forall_mem_cons.mpr ⟨lw_p8, List.forall_mem_cons.mpr ⟨lw_p9, List.forall_mem_cons.mpr ⟨lw_p10, List.forall_mem_cons.mpr ⟨lw_p11, List.forall_mem_cons.mpr ⟨lw_p12, List.forall_mem_cons.mpr ⟨lw_p13, List.forall_mem_cons.mpr ⟨lw_p14, List.forall_mem_cons.mpr ⟨lw_p15, fun _ h => absurd h List.not_mem_nil⟩⟩⟩⟩⟩⟩⟩⟩⟩⟩⟩⟩⟩⟩⟩⟩
theorem lw_p16 : lw_okq (⟨"NobodysTuesday", "requireSet", "(I)V"⟩, 12) := ⟨⟨by decide +kernel, by decide +kernel⟩, List.mem_of_getElem? (i := 24) (by decide +kernel), List.mem_of_getElem? (i := 715) (by decide +kernel), List.mem_of_getElem? (i := 716) (by decide +kernel)⟩
theorem lw_p17 : lw_okq (⟨"NobodysTuesday", "requireWeek", "(I)V"⟩, 12) := ⟨⟨by decide +kernel, by decide +kernel⟩, List.mem_of_getElem? (i := 24) (by decide +kernel), List.mem_of_getElem? (i := 734) (by decide +kernel), List.mem_of_getElem? (i := 735) (by decide +kernel)⟩
theorem lw_p18 : lw_okq (⟨"NobodysTuesday", "laidTray", "(I)LNobodysTuesday$Tray;"⟩, 12) := ⟨⟨by decide +kernel, by decide +kernel⟩, List.mem_of_getElem? (i := 24) (by decide +kernel), List.mem_of_getElem? (i := 769) (by decide +kernel), List.mem_of_getElem? (i := 770) (by decide +kernel)⟩
theorem lw_p19 : lw_okq (⟨"NobodysTuesday", "takeOrder", "(LNobodysTuesday$Tray;)V"⟩, 12) := ⟨⟨by decide +kernel, by decide +kernel⟩, List.mem_of_getElem? (i := 24) (by decide +kernel), List.mem_of_getElem? (i := 813) (by decide +kernel), List.mem_of_getElem? (i := 814) (by decide +kernel)⟩
theorem lw_p20 : lw_okq (⟨"NobodysTuesday$TwoClubs", "begin", "(LNobodysTuesday$Club;II)V"⟩, 6) := ⟨⟨by decide +kernel, by decide +kernel⟩, List.mem_of_getElem? (i := 191) (by decide +kernel), List.mem_of_getElem? (i := 832) (by decide +kernel), List.mem_of_getElem? (i := 833) (by decide +kernel)⟩
theorem lw_p21 : lw_okq (⟨"NobodysTuesday$TwoClubs", "isAtRest", "()Z"⟩, 6) := ⟨⟨by decide +kernel, by decide +kernel⟩, List.mem_of_getElem? (i := 191) (by decide +kernel), List.mem_of_getElem? (i := 839) (by decide +kernel), List.mem_of_getElem? (i := 840) (by decide +kernel)⟩
theorem lw_p22 : lw_okq (⟨"NobodysTuesday$TwoClubs", "turnOn", "()V"⟩, 6) := ⟨⟨by decide +kernel, by decide +kernel⟩, List.mem_of_getElem? (i := 191) (by decide +kernel), List.mem_of_getElem? (i := 849) (by decide +kernel), List.mem_of_getElem? (i := 850) (by decide +kernel)⟩
theorem lw_p23 : lw_okq (⟨"NobodysTuesday", "requireChances", "(LNobodysTuesday$Tray;I)V"⟩, 12) := ⟨⟨by decide +kernel, by decide +kernel⟩, List.mem_of_getElem? (i := 24) (by decide +kernel), List.mem_of_getElem? (i := 933) (by decide +kernel), List.mem_of_getElem? (i := 934) (by decide +kernel)⟩
theorem lw_p24 : lw_okq (⟨"NobodysTuesday$Club", "comersUntil", "(I)I"⟩, 14) := ⟨⟨by decide +kernel, by decide +kernel⟩, List.mem_of_getElem? (i := 32) (by decide +kernel), List.mem_of_getElem? (i := 1056) (by decide +kernel), List.mem_of_getElem? (i := 1057) (by decide +kernel)⟩
theorem lw_p25 : lw_okq (⟨"NobodysTuesday$Club", "mostOftenUntil", "(I)I"⟩, 14) := ⟨⟨by decide +kernel, by decide +kernel⟩, List.mem_of_getElem? (i := 32) (by decide +kernel), List.mem_of_getElem? (i := 1060) (by decide +kernel), List.mem_of_getElem? (i := 1061) (by decide +kernel)⟩
theorem lw_p26 : lw_okq (⟨"NobodysTuesday$Tray", "cut", "(J)J"⟩, 4) := ⟨⟨by decide +kernel, by decide +kernel⟩, List.mem_of_getElem? (i := 218) (by decide +kernel), List.mem_of_getElem? (i := 1112) (by decide +kernel), List.mem_of_getElem? (i := 1113) (by decide +kernel)⟩
theorem lw_p27 : lw_okq (⟨"NobodysTuesdayModel", "fails", "(I)I"⟩, 28) := ⟨⟨by decide +kernel, by decide +kernel⟩, List.mem_of_getElem? (i := 1143) (by decide +kernel), List.mem_of_getElem? (i := 1252) (by decide +kernel), List.mem_of_getElem? (i := 1253) (by decide +kernel)⟩
theorem lw_p28 : lw_okq (⟨"NobodysTuesdayModel", "reads", "()V"⟩, 28) := ⟨⟨by decide +kernel, by decide +kernel⟩, List.mem_of_getElem? (i := 1143) (by decide +kernel), List.mem_of_getElem? (i := 1256) (by decide +kernel), List.mem_of_getElem? (i := 1257) (by decide +kernel)⟩
theorem lw_p29 : lw_okq (⟨"NobodysTuesdayModel", "see", "(I)I"⟩, 28) := ⟨⟨by decide +kernel, by decide +kernel⟩, List.mem_of_getElem? (i := 1143) (by decide +kernel), List.mem_of_getElem? (i := 1263) (by decide +kernel), List.mem_of_getElem? (i := 1264) (by decide +kernel)⟩
theorem lw_p30 : lw_okq (⟨"NobodysTuesdayModel", "readLine", "()V"⟩, 28) := ⟨⟨by decide +kernel, by decide +kernel⟩, List.mem_of_getElem? (i := 1143) (by decide +kernel), List.mem_of_getElem? (i := 1270) (by decide +kernel), List.mem_of_getElem? (i := 1271) (by decide +kernel)⟩
theorem lw_p31 : lw_okq (⟨"NobodysTuesdayModel", "took", "(Ljava/lang/String;)Z"⟩, 28) := ⟨⟨by decide +kernel, by decide +kernel⟩, List.mem_of_getElem? (i := 1143) (by decide +kernel), List.mem_of_getElem? (i := 1275) (by decide +kernel), List.mem_of_getElem? (i := 1276) (by decide +kernel)⟩
def lw_privs_2 : List (MethodName × Nat) := [(⟨"NobodysTuesday", "requireSet", "(I)V"⟩, 12), (⟨"NobodysTuesday", "requireWeek", "(I)V"⟩, 12), (⟨"NobodysTuesday", "laidTray", "(I)LNobodysTuesday$Tray;"⟩, 12), (⟨"NobodysTuesday", "takeOrder", "(LNobodysTuesday$Tray;)V"⟩, 12), (⟨"NobodysTuesday$TwoClubs", "begin", "(LNobodysTuesday$Club;II)V"⟩, 6), (⟨"NobodysTuesday$TwoClubs", "isAtRest", "()Z"⟩, 6), (⟨"NobodysTuesday$TwoClubs", "turnOn", "()V"⟩, 6), (⟨"NobodysTuesday", "requireChances", "(LNobodysTuesday$Tray;I)V"⟩, 12), (⟨"NobodysTuesday$Club", "comersUntil", "(I)I"⟩, 14), (⟨"NobodysTuesday$Club", "mostOftenUntil", "(I)I"⟩, 14), (⟨"NobodysTuesday$Tray", "cut", "(J)J"⟩, 4), (⟨"NobodysTuesdayModel", "fails", "(I)I"⟩, 28), (⟨"NobodysTuesdayModel", "reads", "()V"⟩, 28), (⟨"NobodysTuesdayModel", "see", "(I)I"⟩, 28), (⟨"NobodysTuesdayModel", "readLine", "()V"⟩, 28), (⟨"NobodysTuesdayModel", "took", "(Ljava/lang/String;)Z"⟩, 28)]
theorem lw_r2 : ∀ q ∈ lw_privs_2, lw_okq q := List.forall_mem_cons.mpr ⟨lw_p16, List.forall_mem_cons.mpr ⟨lw_p17, List.forall_mem_cons.mpr ⟨lw_p18, List.forall_mem_cons.mpr ⟨lw_p19, List.forall_mem_cons.mpr ⟨lw_p20, List.forall_mem_cons.mpr ⟨lw_p21, List.forall_mem_cons.mpr ⟨lw_p22, List.forall_mem_cons.mpr ⟨lw_p23, List.forall_mem_cons.mpr ⟨lw_p24, List.forall_mem_cons.mpr ⟨lw_p25, List.forall_mem_cons.mpr ⟨lw_p26, List.forall_mem_cons.mpr ⟨lw_p27, List.forall_mem_cons.mpr ⟨lw_p28, List.forall_mem_cons.mpr ⟨lw_p29, List.forall_mem_cons.mpr ⟨lw_p30, List.forall_mem_cons.mpr ⟨lw_p31, fun _ h => absurd h List.not_mem_nil⟩⟩⟩⟩⟩⟩⟩⟩⟩⟩⟩⟩⟩⟩⟩⟩
theorem lw_p32 : lw_okq (⟨"NobodysTuesdayModel", "isWord", "(Ljava/lang/String;)Z"⟩, 28) := ⟨⟨by decide +kernel, by decide +kernel⟩, List.mem_of_getElem? (i := 1143) (by decide +kernel), List.mem_of_getElem? (i := 1279) (by decide +kernel), List.mem_of_getElem? (i := 1280) (by decide +kernel)⟩
theorem lw_p33 : lw_okq (⟨"NobodysTuesdayModel", "number", "(II)I"⟩, 28) := ⟨⟨by decide +kernel, by decide +kernel⟩, List.mem_of_getElem? (i := 1143) (by decide +kernel), List.mem_of_getElem? (i := 1285) (by decide +kernel), List.mem_of_getElem? (i := 1286) (by decide +kernel)⟩
theorem lw_p34 : lw_okq (⟨"NobodysTuesdayModel", "blames", "(I)V"⟩, 28) := ⟨⟨by decide +kernel, by decide +kernel⟩, List.mem_of_getElem? (i := 1143) (by decide +kernel), List.mem_of_getElem? (i := 1289) (by decide +kernel), List.mem_of_getElem? (i := 1290) (by decide +kernel)⟩
theorem lw_p35 : lw_okq (⟨"NobodysTuesdayModel", "readMember", "()V"⟩, 28) := ⟨⟨by decide +kernel, by decide +kernel⟩, List.mem_of_getElem? (i := 1143) (by decide +kernel), List.mem_of_getElem? (i := 1296) (by decide +kernel), List.mem_of_getElem? (i := 1297) (by decide +kernel)⟩
theorem lw_p36 : lw_okq (⟨"NobodysTuesdayModel", "ruleTold", "()I"⟩, 28) := ⟨⟨by decide +kernel, by decide +kernel⟩, List.mem_of_getElem? (i := 1143) (by decide +kernel), List.mem_of_getElem? (i := 1300) (by decide +kernel), List.mem_of_getElem? (i := 1301) (by decide +kernel)⟩
theorem lw_p37 : lw_okq (⟨"NobodysTuesdayModel", "isMember", "(I)Z"⟩, 28) := ⟨⟨by decide +kernel, by decide +kernel⟩, List.mem_of_getElem? (i := 1143) (by decide +kernel), List.mem_of_getElem? (i := 1328) (by decide +kernel), List.mem_of_getElem? (i := 1329) (by decide +kernel)⟩
theorem lw_p38 : lw_okq (⟨"NobodysTuesdayModel", "many", "()I"⟩, 28) := ⟨⟨by decide +kernel, by decide +kernel⟩, List.mem_of_getElem? (i := 1143) (by decide +kernel), List.mem_of_getElem? (i := 1332) (by decide +kernel), List.mem_of_getElem? (i := 1333) (by decide +kernel)⟩
theorem lw_p39 : lw_okq (⟨"NobodysTuesdayModel", "of", "(II)I"⟩, 28) := ⟨⟨by decide +kernel, by decide +kernel⟩, List.mem_of_getElem? (i := 1143) (by decide +kernel), List.mem_of_getElem? (i := 1337) (by decide +kernel), List.mem_of_getElem? (i := 1338) (by decide +kernel)⟩
theorem lw_p40 : lw_okq (⟨"NobodysTuesdayModel", "payOf", "(II)I"⟩, 28) := ⟨⟨by decide +kernel, by decide +kernel⟩, List.mem_of_getElem? (i := 1143) (by decide +kernel), List.mem_of_getElem? (i := 1341) (by decide +kernel), List.mem_of_getElem? (i := 1342) (by decide +kernel)⟩
theorem lw_p41 : lw_okq (⟨"NobodysTuesdayModel", "meets", "(I)Z"⟩, 28) := ⟨⟨by decide +kernel, by decide +kernel⟩, List.mem_of_getElem? (i := 1143) (by decide +kernel), List.mem_of_getElem? (i := 1348) (by decide +kernel), List.mem_of_getElem? (i := 1349) (by decide +kernel)⟩
theorem lw_p42 : lw_okq (⟨"NobodysTuesdayModel", "lays", "()V"⟩, 28) := ⟨⟨by decide +kernel, by decide +kernel⟩, List.mem_of_getElem? (i := 1143) (by decide +kernel), List.mem_of_getElem? (i := 1364) (by decide +kernel), List.mem_of_getElem? (i := 1365) (by decide +kernel)⟩
theorem lw_p43 : lw_okq (⟨"NobodysTuesdayModel", "last", "()I"⟩, 28) := ⟨⟨by decide +kernel, by decide +kernel⟩, List.mem_of_getElem? (i := 1143) (by decide +kernel), List.mem_of_getElem? (i := 1368) (by decide +kernel), List.mem_of_getElem? (i := 1369) (by decide +kernel)⟩
theorem lw_p44 : lw_okq (⟨"NobodysTuesdayModel", "goes", "(IIZ)I"⟩, 28) := ⟨⟨by decide +kernel, by decide +kernel⟩, List.mem_of_getElem? (i := 1143) (by decide +kernel), List.mem_of_getElem? (i := 1372) (by decide +kernel), List.mem_of_getElem? (i := 1373) (by decide +kernel)⟩
theorem lw_p45 : lw_okq (⟨"NobodysTuesdayModel", "comes", "(IIIIZ)Z"⟩, 28) := ⟨⟨by decide +kernel, by decide +kernel⟩, List.mem_of_getElem? (i := 1143) (by decide +kernel), List.mem_of_getElem? (i := 1376) (by decide +kernel), List.mem_of_getElem? (i := 1377) (by decide +kernel)⟩
theorem lw_p46 : lw_okq (⟨"NobodysTuesdayModel", "seen", "(IIZ)I"⟩, 28) := ⟨⟨by decide +kernel, by decide +kernel⟩, List.mem_of_getElem? (i := 1143) (by decide +kernel), List.mem_of_getElem? (i := 1380) (by decide +kernel), List.mem_of_getElem? (i := 1381) (by decide +kernel)⟩
theorem lw_p47 : lw_okq (⟨"NobodysTuesdayModel", "draw", "(I)I"⟩, 28) := ⟨⟨by decide +kernel, by decide +kernel⟩, List.mem_of_getElem? (i := 1143) (by decide +kernel), List.mem_of_getElem? (i := 1384) (by decide +kernel), List.mem_of_getElem? (i := 1385) (by decide +kernel)⟩
def lw_privs_3 : List (MethodName × Nat) := [(⟨"NobodysTuesdayModel", "isWord", "(Ljava/lang/String;)Z"⟩, 28), (⟨"NobodysTuesdayModel", "number", "(II)I"⟩, 28), (⟨"NobodysTuesdayModel", "blames", "(I)V"⟩, 28), (⟨"NobodysTuesdayModel", "readMember", "()V"⟩, 28), (⟨"NobodysTuesdayModel", "ruleTold", "()I"⟩, 28), (⟨"NobodysTuesdayModel", "isMember", "(I)Z"⟩, 28), (⟨"NobodysTuesdayModel", "many", "()I"⟩, 28), (⟨"NobodysTuesdayModel", "of", "(II)I"⟩, 28), (⟨"NobodysTuesdayModel", "payOf", "(II)I"⟩, 28), (⟨"NobodysTuesdayModel", "meets", "(I)Z"⟩, 28), (⟨"NobodysTuesdayModel", "lays", "()V"⟩, 28), (⟨"NobodysTuesdayModel", "last", "()I"⟩, 28), (⟨"NobodysTuesdayModel", "goes", "(IIZ)I"⟩, 28), (⟨"NobodysTuesdayModel", "comes", "(IIIIZ)Z"⟩, 28), (⟨"NobodysTuesdayModel", "seen", "(IIZ)I"⟩, 28), (⟨"NobodysTuesdayModel", "draw", "(I)I"⟩, 28)]
theorem lw_r3 : ∀ q ∈ lw_privs_3, lw_okq q := List.forall_mem_cons.mpr ⟨lw_p32, List.forall_mem_cons.mpr ⟨lw_p33, List.forall_mem_cons.mpr ⟨lw_p34, List.forall_mem_cons.mpr ⟨lw_p35, List.forall_mem_cons.mpr ⟨lw_p36, List.forall_mem_cons.mpr ⟨lw_p37, List.forall_mem_cons.mpr ⟨lw_p38, List.forall_mem_cons.mpr ⟨lw_p39, List.forall_mem_cons.mpr ⟨lw_p40, List.forall_mem_cons.mpr ⟨lw_p41, List.forall_mem_cons.mpr ⟨lw_p42, List.forall_mem_cons.mpr ⟨lw_p43, List.forall_mem_cons.mpr ⟨lw_p44, List.forall_mem_cons.mpr ⟨lw_p45, List.forall_mem_cons.mpr ⟨lw_p46, List.forall_mem_cons.mpr ⟨lw_p47, fun _ h => absurd h List.not_mem_nil⟩⟩⟩⟩⟩⟩⟩⟩⟩⟩⟩⟩⟩⟩⟩⟩
theorem lw_p48 : lw_okq (⟨"NobodysTuesdayModel", "thoughts", "(II)I"⟩, 28) := ⟨⟨by decide +kernel, by decide +kernel⟩, List.mem_of_getElem? (i := 1143) (by decide +kernel), List.mem_of_getElem? (i := 1389) (by decide +kernel), List.mem_of_getElem? (i := 1390) (by decide +kernel)⟩
theorem lw_p49 : lw_okq (⟨"NobodysTuesdayModel", "learns", "(I)Z"⟩, 28) := ⟨⟨by decide +kernel, by decide +kernel⟩, List.mem_of_getElem? (i := 1143) (by decide +kernel), List.mem_of_getElem? (i := 1393) (by decide +kernel), List.mem_of_getElem? (i := 1394) (by decide +kernel)⟩
theorem lw_p50 : lw_okq (⟨"NobodysTuesdayModel", "goesBy", "(I)V"⟩, 28) := ⟨⟨by decide +kernel, by decide +kernel⟩, List.mem_of_getElem? (i := 1143) (by decide +kernel), List.mem_of_getElem? (i := 1397) (by decide +kernel), List.mem_of_getElem? (i := 1398) (by decide +kernel)⟩
theorem lw_p51 : lw_okq (⟨"NobodysTuesdayModel", "isSet", "(I)Z"⟩, 28) := ⟨⟨by decide +kernel, by decide +kernel⟩, List.mem_of_getElem? (i := 1143) (by decide +kernel), List.mem_of_getElem? (i := 1405) (by decide +kernel), List.mem_of_getElem? (i := 1406) (by decide +kernel)⟩
theorem lw_p52 : lw_okq (⟨"NobodysTuesdayModel", "all", "()I"⟩, 28) := ⟨⟨by decide +kernel, by decide +kernel⟩, List.mem_of_getElem? (i := 1143) (by decide +kernel), List.mem_of_getElem? (i := 1409) (by decide +kernel), List.mem_of_getElem? (i := 1410) (by decide +kernel)⟩
theorem lw_p53 : lw_okq (⟨"NobodysTuesdayModel", "isWeek", "(I)Z"⟩, 28) := ⟨⟨by decide +kernel, by decide +kernel⟩, List.mem_of_getElem? (i := 1143) (by decide +kernel), List.mem_of_getElem? (i := 1421) (by decide +kernel), List.mem_of_getElem? (i := 1422) (by decide +kernel)⟩
theorem lw_p54 : lw_okq (⟨"NobodysTuesdayModel", "goesOn", "()I"⟩, 28) := ⟨⟨by decide +kernel, by decide +kernel⟩, List.mem_of_getElem? (i := 1143) (by decide +kernel), List.mem_of_getElem? (i := 1433) (by decide +kernel), List.mem_of_getElem? (i := 1434) (by decide +kernel)⟩
theorem lw_p55 : lw_okq (⟨"NobodysTuesdayModel", "trayFault", "(I)I"⟩, 28) := ⟨⟨by decide +kernel, by decide +kernel⟩, List.mem_of_getElem? (i := 1143) (by decide +kernel), List.mem_of_getElem? (i := 1453) (by decide +kernel), List.mem_of_getElem? (i := 1454) (by decide +kernel)⟩
theorem lw_p56 : lw_okq (⟨"NobodysTuesdayModel", "gainOf", "(II)I"⟩, 28) := ⟨⟨by decide +kernel, by decide +kernel⟩, List.mem_of_getElem? (i := 1143) (by decide +kernel), List.mem_of_getElem? (i := 1465) (by decide +kernel), List.mem_of_getElem? (i := 1466) (by decide +kernel)⟩
theorem lw_p57 : lw_okq (⟨"NobodysTuesdayModel", "firstToGain", "(I)I"⟩, 28) := ⟨⟨by decide +kernel, by decide +kernel⟩, List.mem_of_getElem? (i := 1143) (by decide +kernel), List.mem_of_getElem? (i := 1473) (by decide +kernel), List.mem_of_getElem? (i := 1474) (by decide +kernel)⟩
theorem lw_p58 : lw_okq (⟨"NobodysTuesdayModel", "isStrong", "(I)Z"⟩, 28) := ⟨⟨by decide +kernel, by decide +kernel⟩, List.mem_of_getElem? (i := 1143) (by decide +kernel), List.mem_of_getElem? (i := 1485) (by decide +kernel), List.mem_of_getElem? (i := 1486) (by decide +kernel)⟩
theorem lw_p59 : lw_okq (⟨"NobodysTuesdayModel", "byTurns", "()I"⟩, 28) := ⟨⟨by decide +kernel, by decide +kernel⟩, List.mem_of_getElem? (i := 1143) (by decide +kernel), List.mem_of_getElem? (i := 1497) (by decide +kernel), List.mem_of_getElem? (i := 1498) (by decide +kernel)⟩
theorem lw_p60 : lw_okq (⟨"NobodysTuesdayModel", "wants", "(II)Z"⟩, 28) := ⟨⟨by decide +kernel, by decide +kernel⟩, List.mem_of_getElem? (i := 1143) (by decide +kernel), List.mem_of_getElem? (i := 1501) (by decide +kernel), List.mem_of_getElem? (i := 1502) (by decide +kernel)⟩
theorem lw_p61 : lw_okq (⟨"NobodysTuesdayModel", "restsInTwo", "(III)Z"⟩, 28) := ⟨⟨by decide +kernel, by decide +kernel⟩, List.mem_of_getElem? (i := 1143) (by decide +kernel), List.mem_of_getElem? (i := 1514) (by decide +kernel), List.mem_of_getElem? (i := 1515) (by decide +kernel)⟩
theorem lw_p62 : lw_okq (⟨"NobodysTuesdayModel", "payOfTwo", "(IIII)I"⟩, 28) := ⟨⟨by decide +kernel, by decide +kernel⟩, List.mem_of_getElem? (i := 1143) (by decide +kernel), List.mem_of_getElem? (i := 1518) (by decide +kernel), List.mem_of_getElem? (i := 1519) (by decide +kernel)⟩
theorem lw_p63 : lw_okq (⟨"NobodysTuesdayModel", "payAll", "(I)I"⟩, 28) := ⟨⟨by decide +kernel, by decide +kernel⟩, List.mem_of_getElem? (i := 1143) (by decide +kernel), List.mem_of_getElem? (i := 1526) (by decide +kernel), List.mem_of_getElem? (i := 1527) (by decide +kernel)⟩
def lw_privs_4 : List (MethodName × Nat) := [(⟨"NobodysTuesdayModel", "thoughts", "(II)I"⟩, 28), (⟨"NobodysTuesdayModel", "learns", "(I)Z"⟩, 28), (⟨"NobodysTuesdayModel", "goesBy", "(I)V"⟩, 28), (⟨"NobodysTuesdayModel", "isSet", "(I)Z"⟩, 28), (⟨"NobodysTuesdayModel", "all", "()I"⟩, 28), (⟨"NobodysTuesdayModel", "isWeek", "(I)Z"⟩, 28), (⟨"NobodysTuesdayModel", "goesOn", "()I"⟩, 28), (⟨"NobodysTuesdayModel", "trayFault", "(I)I"⟩, 28), (⟨"NobodysTuesdayModel", "gainOf", "(II)I"⟩, 28), (⟨"NobodysTuesdayModel", "firstToGain", "(I)I"⟩, 28), (⟨"NobodysTuesdayModel", "isStrong", "(I)Z"⟩, 28), (⟨"NobodysTuesdayModel", "byTurns", "()I"⟩, 28), (⟨"NobodysTuesdayModel", "wants", "(II)Z"⟩, 28), (⟨"NobodysTuesdayModel", "restsInTwo", "(III)Z"⟩, 28), (⟨"NobodysTuesdayModel", "payOfTwo", "(IIII)I"⟩, 28), (⟨"NobodysTuesdayModel", "payAll", "(I)I"⟩, 28)]
theorem lw_r4 : ∀ q ∈ lw_privs_4, lw_okq q := List.forall_mem_cons.mpr ⟨lw_p48, List.forall_mem_cons.mpr ⟨lw_p49, List.forall_mem_cons.mpr ⟨lw_p50, List.forall_mem_cons.mpr ⟨lw_p51, List.forall_mem_cons.mpr ⟨lw_p52, List.forall_mem_cons.mpr ⟨lw_p53, List.forall_mem_cons.mpr ⟨lw_p54, List.forall_mem_cons.mpr ⟨lw_p55, List.forall_mem_cons.mpr ⟨lw_p56, List.forall_mem_cons.mpr ⟨lw_p57, List.forall_mem_cons.mpr ⟨lw_p58, List.forall_mem_cons.mpr ⟨lw_p59, List.forall_mem_cons.mpr ⟨lw_p60, List.forall_mem_cons.mpr ⟨lw_p61, List.forall_mem_cons.mpr ⟨lw_p62, List.forall_mem_cons.mpr ⟨lw_p63, fun _ h => absurd h List.not_mem_nil⟩⟩⟩⟩⟩⟩⟩⟩⟩⟩⟩⟩⟩⟩⟩⟩
theorem lw_p64 : lw_okq (⟨"NobodysTuesdayModel", "bribeOf", "(I)I"⟩, 28) := ⟨⟨by decide +kernel, by decide +kernel⟩, List.mem_of_getElem? (i := 1143) (by decide +kernel), List.mem_of_getElem? (i := 1546) (by decide +kernel), List.mem_of_getElem? (i := 1547) (by decide +kernel)⟩
theorem lw_p65 : lw_okq (⟨"NobodysTuesdayModel", "leastSet", "(Z)I"⟩, 28) := ⟨⟨by decide +kernel, by decide +kernel⟩, List.mem_of_getElem? (i := 1143) (by decide +kernel), List.mem_of_getElem? (i := 1555) (by decide +kernel), List.mem_of_getElem? (i := 1556) (by decide +kernel)⟩
theorem lw_p66 : lw_okq (⟨"NobodysTuesdayModel", "costOf", "(I)I"⟩, 28) := ⟨⟨by decide +kernel, by decide +kernel⟩, List.mem_of_getElem? (i := 1143) (by decide +kernel), List.mem_of_getElem? (i := 1559) (by decide +kernel), List.mem_of_getElem? (i := 1560) (by decide +kernel)⟩
theorem lw_p67 : lw_okq (⟨"NobodysTuesdayModel", "waysOf", "(IIII)J"⟩, 28) := ⟨⟨by decide +kernel, by decide +kernel⟩, List.mem_of_getElem? (i := 1143) (by decide +kernel), List.mem_of_getElem? (i := 1572) (by decide +kernel), List.mem_of_getElem? (i := 1573) (by decide +kernel)⟩
theorem lw_p68 : lw_okq (⟨"NobodysTuesdayModel", "waysBegin", "()V"⟩, 28) := ⟨⟨by decide +kernel, by decide +kernel⟩, List.mem_of_getElem? (i := 1143) (by decide +kernel), List.mem_of_getElem? (i := 1576) (by decide +kernel), List.mem_of_getElem? (i := 1577) (by decide +kernel)⟩
theorem lw_p69 : lw_okq (⟨"NobodysTuesdayModel", "waysGo", "(JJ)V"⟩, 28) := ⟨⟨by decide +kernel, by decide +kernel⟩, List.mem_of_getElem? (i := 1143) (by decide +kernel), List.mem_of_getElem? (i := 1580) (by decide +kernel), List.mem_of_getElem? (i := 1581) (by decide +kernel)⟩
theorem lw_p70 : lw_okq (⟨"NobodysTuesdayModel", "metAhead", "(I)I"⟩, 28) := ⟨⟨by decide +kernel, by decide +kernel⟩, List.mem_of_getElem? (i := 1143) (by decide +kernel), List.mem_of_getElem? (i := 1603) (by decide +kernel), List.mem_of_getElem? (i := 1604) (by decide +kernel)⟩
theorem lw_p71 : lw_okq (⟨"NobodysTuesdayModel", "rhythm", "()I"⟩, 28) := ⟨⟨by decide +kernel, by decide +kernel⟩, List.mem_of_getElem? (i := 1143) (by decide +kernel), List.mem_of_getElem? (i := 1611) (by decide +kernel), List.mem_of_getElem? (i := 1612) (by decide +kernel)⟩
theorem lw_p72 : lw_okq (⟨"NobodysTuesdayModel", "bothCame", "(II)I"⟩, 28) := ⟨⟨by decide +kernel, by decide +kernel⟩, List.mem_of_getElem? (i := 1143) (by decide +kernel), List.mem_of_getElem? (i := 1646) (by decide +kernel), List.mem_of_getElem? (i := 1647) (by decide +kernel)⟩
theorem lw_p73 : lw_okq (⟨"NobodysTuesdayModel", "guessOf", "(II)I"⟩, 28) := ⟨⟨by decide +kernel, by decide +kernel⟩, List.mem_of_getElem? (i := 1143) (by decide +kernel), List.mem_of_getElem? (i := 1662) (by decide +kernel), List.mem_of_getElem? (i := 1663) (by decide +kernel)⟩
theorem lw_p74 : lw_okq (⟨"NobodysTuesdayModel", "cut", "(IIJ)J"⟩, 28) := ⟨⟨by decide +kernel, by decide +kernel⟩, List.mem_of_getElem? (i := 1143) (by decide +kernel), List.mem_of_getElem? (i := 1679) (by decide +kernel), List.mem_of_getElem? (i := 1680) (by decide +kernel)⟩
def lw_privs_5 : List (MethodName × Nat) := [(⟨"NobodysTuesdayModel", "bribeOf", "(I)I"⟩, 28), (⟨"NobodysTuesdayModel", "leastSet", "(Z)I"⟩, 28), (⟨"NobodysTuesdayModel", "costOf", "(I)I"⟩, 28), (⟨"NobodysTuesdayModel", "waysOf", "(IIII)J"⟩, 28), (⟨"NobodysTuesdayModel", "waysBegin", "()V"⟩, 28), (⟨"NobodysTuesdayModel", "waysGo", "(JJ)V"⟩, 28), (⟨"NobodysTuesdayModel", "metAhead", "(I)I"⟩, 28), (⟨"NobodysTuesdayModel", "rhythm", "()I"⟩, 28), (⟨"NobodysTuesdayModel", "bothCame", "(II)I"⟩, 28), (⟨"NobodysTuesdayModel", "guessOf", "(II)I"⟩, 28), (⟨"NobodysTuesdayModel", "cut", "(IIJ)J"⟩, 28)]
theorem lw_r5 : ∀ q ∈ lw_privs_5, lw_okq q := List.forall_mem_cons.mpr ⟨lw_p64, List.forall_mem_cons.mpr ⟨lw_p65, List.forall_mem_cons.mpr ⟨lw_p66, List.forall_mem_cons.mpr ⟨lw_p67, List.forall_mem_cons.mpr ⟨lw_p68, List.forall_mem_cons.mpr ⟨lw_p69, List.forall_mem_cons.mpr ⟨lw_p70, List.forall_mem_cons.mpr ⟨lw_p71, List.forall_mem_cons.mpr ⟨lw_p72, List.forall_mem_cons.mpr ⟨lw_p73, List.forall_mem_cons.mpr ⟨lw_p74, fun _ h => absurd h List.not_mem_nil⟩⟩⟩⟩⟩⟩⟩⟩⟩⟩⟩
def lw_privs : List (MethodName × Nat) := lw_privs_1 ++ (lw_privs_2 ++ (lw_privs_3 ++ (lw_privs_4 ++ (lw_privs_5))))
def lw_tbl : List Cond := k2_sels lw_privs ++ tables_1
theorem lw_privs_ok : ∀ q ∈ lw_privs, lw_okq q := by
  show ∀ q ∈ lw_privs_1 ++ (lw_privs_2 ++ (lw_privs_3 ++ (lw_privs_4 ++ (lw_privs_5)))), lw_okq q
  exact List.forall_mem_append.mpr ⟨lw_r1, List.forall_mem_append.mpr ⟨lw_r2, List.forall_mem_append.mpr ⟨lw_r3, List.forall_mem_append.mpr ⟨lw_r4, lw_r5⟩⟩⟩⟩
end
section
/-! ===== BEGIN words of one list among another's, by their places ===== -/
theorem goodIn_r {big : List Cond} (ws : List Cond) (ps : List Nat) (hp : ws = ps.filterMap (fun i => big[i]?)) (h : ws.all goodWord = true) : GoodIn big ws := by
  intro w hw
  have h1 := List.all_eq_true.mp h w hw
  rw [hp] at hw
  obtain ⟨i, -, hi⟩ := List.mem_filterMap.mp hw
  have hm : w ∈ big := by first | exact List.mem_of_getElem? hi | exact List.getElem?_mem hi
  exact ⟨hm, good_of_word h1⟩
theorem goodIn_app {big a b : List Cond} (ha : GoodIn big a) (hb : GoodIn big b) : GoodIn big (a ++ b) := fun w h => (List.mem_append.mp h).elim (ha w) (hb w)
theorem goodIn_ca {big a b : List Cond} {c : Cond} (ha : GoodIn big (c :: a)) (hb : GoodIn big b) : GoodIn big (c :: (a ++ b)) := fun w h => (List.mem_cons.mp h).elim (fun e => ha w (List.mem_cons.mpr (Or.inl e))) (fun h => (List.mem_append.mp h).elim (fun h => ha w (List.mem_cons.mpr (Or.inr h))) (hb w))
theorem goodIn_sub {big ws : List Cond} (hm : ∀ w ∈ ws, w ∈ big) (h : ws.all goodWord = true) : GoodIn big ws := fun w hw => ⟨hm w hw, good_of_word (List.all_eq_true.mp h w hw)⟩
/-! ===== END ===== -/

def va_AOA (ty : FieldType) (U : State) : Prop := (Cond.arrayOver (.array ty)).before #[] U = true
theorem va_AOA.use {ty : FieldType} {A : Array Value} {U : State} (h : va_AOA ty U) : (Cond.arrayOver (.array ty)).before A U = true := h
/-! ===== BEGIN new T[n][m]: the outer array a place, the inner ones among the pooled ===== -/
/-- f, but v at every address of l -/
def vr_up {α : Type} (f : Nat → α) (l : List Nat) (v : α) : Nat → α := fun a => if a ∈ l then v else f a
theorem vr_up_in {α : Type} {f : Nat → α} {l : List Nat} {v : α} {a : Nat} (h : a ∈ l) : vr_up f l v a = v := if_pos h
theorem vr_up_ne {α : Type} {f : Nat → α} {l : List Nat} {v : α} {a : Nat} (h : a ∉ l) : vr_up f l v a = f a := if_neg h
theorem vr_rows {L l : List Nat} {f : Nat → va_E} {e : va_E} (h : ∀ a, a ∈ l → a ∉ L) : va_pl L f ++ l.map (fun a => (a, e)) = va_pl (L ++ l) (vr_up f l e) := by
  unfold va_pl
  rw [List.map_append]
  congr 1
  · apply List.map_congr_left
    intro a ha
    rw [vr_up_ne (fun q => h a q ha)]
  · apply List.map_congr_left
    intro a ha
    rw [vr_up_in ha]
theorem vr_lay {X rows : va_W} {x : Nat × va_E} {pl : va_W} {D : va_G} {cl : List vw_C} {H : Heap} (hP : va_P D cl (((X ++ pl) ++ [x]) ++ rows) H) : va_P D cl ((X ++ [x]) ++ (pl ++ rows)) H := by
  rw [List.append_assoc (X ++ pl)] at hP
  have h := va_P.swap hP
  rw [← List.append_assoc X] at h
  have h2 := va_P.swap h
  rw [List.append_assoc (X ++ [x])] at h2
  exact h2
theorem vr_layD {X rows : va_W} {x : Nat × va_E} {pl : va_W} {A : Nat → Prop} (hD : va_D A (((X ++ pl) ++ [x]) ++ rows)) : va_D A ((X ++ [x]) ++ (pl ++ rows)) := by
  rw [List.append_assoc (X ++ pl)] at hD
  have h := va_D.swap hD
  rw [← List.append_assoc X] at h
  have h2 := va_D.swap h
  rw [List.append_assoc (X ++ [x])] at h2
  exact h2
theorem vr_outer (c : ClassId) (N h0 : Nat) : ∀ i : Nat, Jvm.Free.Multi.outerC c N h0 i = arrV c N (fun j => va_rf (if j < i then some (h0 + 1 + j) else none))
  | 0 => by
    show ({ cls := c, slots := Array.replicate N .null, vm := .none } : Cell) = _
    rw [arrV_new]
    refine congrArg (arrV c N) (funext fun j => ?_)
    simp [va_rf]
  | i + 1 => by
    show (Jvm.Free.Multi.outerC c N h0 i).setSlot i (.ref (h0 + 1 + i)) = _
    rw [vr_outer c N h0 i, arrV_store]
    refine congrArg (arrV c N) (funext fun j => ?_)
    by_cases e : j = i
    · subst e
      simp [updV, va_rf]
    · by_cases h : j < i
      · simp [updV, e, h, Nat.lt_succ_of_lt h]
      · simp [updV, e, h, show ¬ j < i + 1 by omega]
section VGM
variable {p : Program} {l : Launch} {e : Env} {R : Room} {s : State} {m : MethodId} {args : Array Value} {below : List Frame} {meth : Method} {c : Code} {H : Heap} {locs : List Loc} {cells slots : Nat} {Q : State → Prop}
variable {cc : ByteArray} {pc : Nat} {ls : Array Slot} {rest : List Value} {D : va_G} {cl : List vw_C} {A : Nat → Prop} {a : Nat} {tys : List (ClassId × FieldType)} {ws : va_W} {H0 : Heap}
theorem va_mna {X : va_W} {L : List Nat} {f : Nat → va_E} {cc : ByteArray} (hexec : p.tables.exec = Jvm.exec) (hb : c.code = cc) {own : String} {index : Nat} {ty : FieldType} {cy : ClassId} (hown : s.vm.findClass own = some m.cls) (hclink : (Cond.classLink own index ("[" ++ (FieldType.array ty).toString)).before args s = true) (hover : va_AOA ty s) (harr : (Cond.arrayClass ty).before args s = true) (hcy : s.vm.findClass (FieldType.array ty).toString = some cy)
    (hK : va_K D cl tys s) (hP : va_P D cl (X ++ va_pl L f) H) (hD : va_D A (X ++ va_pl L f)) (hS : va_S A H0 H locs) (hA : ∀ q, H0.size ≤ q → A q) {n k : Int32} {N' K' : Nat} {z : vp_A} (hn : ¬ n < 0) (hk : ¬ k < 0) (hN : n.toNatClampNeg = N') (hM : k.toNatClampNeg = K')
    (hb1 : N' * 4 ≤ 536870912) (hb2 : K' * componentBytes ty ≤ 536870912) (hb3 : K' ≤ 536870912) (hdf : fits ty (defaultValue ty) = true) (hdd : (defaultValue ty).isDefault = true) (hcells : cells + (1 + N') ≤ R.cells) (hslots : slots + (N' + N' * K') ≤ R.slots) (hz : ∀ c : ClassId, Jvm.Free.Multi.innerC c K' (defaultValue ty) = vp_cell c z) (hdg : decode cc pc = .ok (.multianewarray index 2, 4))
    (kk : ∀ (q : Nat) (r : Nat → Nat) (cA : ClassId) (H1 : Heap), (∀ i j : Nat, i < N' → j < N' → r i = r j → i = j) → (∀ i : Nat, i < N' → r i ∉ L) → va_K D cl (tys ++ [(cA, .array ty)]) s →
      va_P D cl ((X ++ [(q, .inl (cA, N', .inr (.inr (.inr (.inr (fun i => if i < N' then some (r i) else none))))))]) ++ va_pl (L ++ (List.range N').map r) (vr_up f ((List.range N').map r) (.inl (cy, z)))) H1 → va_D A ((X ++ [(q, .inl (cA, N', .inr (.inr (.inr (.inr (fun i => if i < N' then some (r i) else none))))))]) ++ va_pl (L ++ (List.range N').map r) (vr_up f ((List.range N').map r) (.inl (cy, z)))) → va_S A H0 H1 locs →
      W p l e R s m args below meth c H1 locs (cells + 1 + N') (slots + N' + N' * K') Q (F0 m (pc + 4) ls (.ref q :: rest))) : W p l e R s m args below meth c H locs cells slots Q (F0 m pc ls (.int k :: .int n :: rest)) := by
  subst hN
  subst hM
  intro T hT Xs
  obtain ⟨vm₁, cA, comp, -, fA, fC, hO, -, X', step⟩ := Xs.multianewarray2F hexec hown hclink (va_AOA.use hover) harr (g := F0 m pc ls (.int k :: .int n :: rest)) rfl (by rw [hb]; exact hdg) rfl hn hk hb1 hb2 hb3 hdf hdd hcells hslots
  have ec : some cy = some comp := hcy.symm.trans fC
  cases ec
  generalize hF : Jvm.Free.Multi.fill (T.setVm vm₁) cA cy n.toNatClampNeg k.toNatClampNeg (defaultValue ty) n.toNatClampNeg = F at X' step
  have hTh : (T.setVm vm₁).heap = H := hT
  obtain ⟨f1, f2, -, -⟩ := Jvm.Free.Multi.fill_facts (T.setVm vm₁) cA cy n.toNatClampNeg k.toNatClampNeg (defaultValue ty) n.toNatClampNeg
  rw [hF, hTh] at f1 f2
  have hold : ∀ x : Nat, x < H.size → F.heap[x]? = H[x]? := fun x hx => by
    have := Jvm.Free.Multi.fill_old (T.setVm vm₁) cA cy n.toNatClampNeg k.toNatClampNeg (defaultValue ty) (a := x) (by rw [hTh]; exact hx) n.toNatClampNeg
    rw [hF, hTh] at this
    exact this
  have hrow : ∀ j : Nat, j < n.toNatClampNeg → F.heap[H.size + 1 + j]? = some (vp_cell cy z) := fun j hj => by
    have := Jvm.Free.Multi.fill_inner (T.setVm vm₁) cA cy n.toNatClampNeg k.toNatClampNeg (defaultValue ty) n.toNatClampNeg j hj
    rw [hF, hTh, hz] at this
    exact this
  have hout : Jvm.Free.Multi.outerC cA n.toNatClampNeg H.size n.toNatClampNeg = vp_cell cA (n.toNatClampNeg, .inr (.inr (.inr (.inr (fun i => if i < n.toNatClampNeg then some (H.size + 1 + i) else none))))) := by
    rw [vp_cell_q]
    exact vr_outer cA n.toNatClampNeg H.size n.toNatClampNeg
  rw [hout] at f2
  have hlt : ∀ a, a ∈ L → a < H.size := fun a ha => by
    obtain ⟨k9, hk9⟩ := va_pl_get (X := X) (f := f) ha
    exact (hP k9 _ hk9).lt
  have hnl : ∀ i : Nat, i < n.toNatClampNeg → H.size + 1 + i ∉ L := fun i _ h => by
    have := hlt _ h
    omega
  have hnm : ∀ a, a ∈ (List.range n.toNatClampNeg).map (fun i => H.size + 1 + i) → a ∉ L := fun a ha h => by
    obtain ⟨i, -, rfl⟩ := List.mem_map.mp ha
    have := hlt _ h
    omega
  have hP0 : va_P D cl (X ++ va_pl L f) F.heap := hP.kept (fun k9 x hx => hold x.1 ((hP k9 x hx).lt))
  have hP1 : va_P D cl ((X ++ va_pl L f) ++ [(H.size, .inl (cA, n.toNatClampNeg, .inr (.inr (.inr (.inr (fun i => if i < n.toNatClampNeg then some (H.size + 1 + i) else none))))))]) F.heap := hP0.app (fun k9 x hx => by
    have h0 : k9 < 1 := (List.getElem?_eq_some_iff.mp hx).1
    rw [show k9 = 0 by omega] at hx
    cases hx
    exact f2)
  have hP2 : va_P D cl (((X ++ va_pl L f) ++ [(H.size, .inl (cA, n.toNatClampNeg, .inr (.inr (.inr (.inr (fun i => if i < n.toNatClampNeg then some (H.size + 1 + i) else none))))))]) ++ ((List.range n.toNatClampNeg).map (fun i => H.size + 1 + i)).map (fun a => (a, .inl (cy, z)))) F.heap := hP1.app (fun k9 x hx => by
    obtain ⟨a, ha, rfl⟩ := List.mem_map.mp (List.mem_of_getElem? hx)
    obtain ⟨i, hi, rfl⟩ := List.mem_map.mp ha
    exact hrow i (List.mem_range.mp hi))
  have hD2 : va_D A (((X ++ va_pl L f) ++ [(H.size, .inl (cA, n.toNatClampNeg, .inr (.inr (.inr (.inr (fun i => if i < n.toNatClampNeg then some (H.size + 1 + i) else none))))))]) ++ ((List.range n.toNatClampNeg).map (fun i => H.size + 1 + i)).map (fun a => (a, .inl (cy, z)))) := by
    have hD1 := hD.push (e := .inl (cA, n.toNatClampNeg, .inr (.inr (.inr (.inr (fun i => if i < n.toNatClampNeg then some (H.size + 1 + i) else none)))))) hP rfl (hA _ hS.1)
    generalize hW1 : (X ++ va_pl L f) ++ [(H.size, .inl (cA, n.toNatClampNeg, .inr (.inr (.inr (.inr (fun i => if i < n.toNatClampNeg then some (H.size + 1 + i) else none))))))] = W1 at hD1 hP1 ⊢
    have hle : ∀ (k9 : Nat) (x : Nat × va_E), W1[k9]? = some x → x.1 ≤ H.size := fun k9 x hx => by
      rw [← hW1] at hx
      by_cases hl : k9 < (X ++ va_pl L f).length
      · rw [List.getElem?_append_left hl] at hx
        exact Nat.le_of_lt ((hP k9 x hx).lt)
      · rw [List.getElem?_append_right (by omega)] at hx
        have h0 : k9 - (X ++ va_pl L f).length < 1 := (List.getElem?_eq_some_iff.mp hx).1
        rw [show k9 - (X ++ va_pl L f).length = 0 by omega] at hx
        cases hx
        exact Nat.le_refl _
    have hr : ∀ (k9 : Nat) (x : Nat × va_E), (((List.range n.toNatClampNeg).map (fun i => H.size + 1 + i)).map (fun a => ((a, .inl (cy, z)) : Nat × va_E)))[k9]? = some x → x.1 = H.size + 1 + k9 := fun k9 x hx => by
      rw [List.getElem?_map, List.getElem?_map] at hx
      by_cases h9 : k9 < n.toNatClampNeg
      · rw [List.getElem?_range h9] at hx
        cases hx
        rfl
      · have hn0 : (List.range n.toNatClampNeg)[k9]? = none := List.getElem?_eq_none (by rw [List.length_range]; omega)
        rw [hn0] at hx
        cases hx
    refine ⟨fun i j x y hi hj hxy => ?_, fun k9 x hx => ?_⟩
    · by_cases h1 : i < W1.length <;> by_cases h2 : j < W1.length
      · rw [List.getElem?_append_left h1] at hi
        rw [List.getElem?_append_left h2] at hj
        exact hD1.1 i j x y hi hj hxy
      · rw [List.getElem?_append_left h1] at hi
        rw [List.getElem?_append_right (by omega)] at hj
        have := hle _ _ hi
        have := hr _ _ hj
        omega
      · rw [List.getElem?_append_right (by omega)] at hi
        rw [List.getElem?_append_left h2] at hj
        have := hle _ _ hj
        have := hr _ _ hi
        omega
      · rw [List.getElem?_append_right (by omega)] at hi hj
        have := hr _ _ hi
        have := hr _ _ hj
        omega
    · by_cases h1 : k9 < W1.length
      · rw [List.getElem?_append_left h1] at hx
        exact hD1.2 k9 x hx
      · rw [List.getElem?_append_right (by omega)] at hx
        have := hr _ _ hx
        exact hA _ (by have := hS.1; omega)
  have hAr : ArrOfT s cA (.array ty) := fun N9 z9 => by
    obtain ⟨-, k9, hk9, cm9, hkk9⟩ := (hO 0 0 0).1
    exact ⟨(fun q hq => by cases hq), k9, hk9, cm9, hkk9⟩
  have hK2 : va_K D cl (tys ++ [(cA, .array ty)]) s := ⟨hK.1, fun k9 x hx => by
    by_cases hl : k9 < tys.length
    · rw [List.getElem?_append_left hl] at hx
      exact hK.2 k9 x hx
    · rw [List.getElem?_append_right (by omega)] at hx
      have h0 : k9 - tys.length < 1 := (List.getElem?_eq_some_iff.mp hx).1
      rw [show k9 - tys.length = 0 by omega] at hx
      cases hx
      exact ⟨hAr, fA⟩⟩
  obtain ⟨t, a1, b1⟩ := kk H.size (fun i => H.size + 1 + i) cA F.heap (fun i j _ _ h => by have h9 : H.size + 1 + i = H.size + 1 + j := h; omega) hnl hK2 (by rw [← vr_rows hnm]; exact vr_lay hP2) (by rw [← vr_rows hnm]; exact vr_layD hD2) ⟨by rw [f1]; have := hS.1; omega, fun x h1 h2 => (hold x (Nat.lt_of_lt_of_le h1 hS.1)).trans (hS.2.1 x h1 h2), hS.2.2⟩ F rfl X'
  refine ⟨t, step t ?_, b1⟩
  have e : T.heap.size = H.size := by rw [hT]
  rw [e]
  exact a1
end VGM
/-! ===== END ===== -/

/-! ===== BEGIN exceptions that leave a method, and their catching by the caller (launches without stack traces) ===== -/
section VXA
/-! The laws vx_back, vx_callV, vx_callS, vx_callSW, vx_throw0, vx_throwS follow proofs of the library, with one case more: JvmDerived/Free/Laws.lean (Back.of_free), Shelf42/LK1.lean (callV, callS), Shelf/KitTraced.lean (throwNew0V, throwNewS). -/
/-- where a method has thrown q: the class by its name, the cell, what was written, the world -/
def vx_T (XC : String → State → State → Prop) (st : State) (q : Addr) (t : State) (mc ms : Nat) (free : Addr → Prop) : Prop :=
  ∃ (E : String) (ce : Cell) (L : List Loc), XC E st t ∧ t.heap[q]? = some ce ∧ ce.vm = .none ∧ st.vm.findClass E = some ce.cls ∧ st.WarmedH t.vm ∧ st.sameButNew ({ t with vm := st.vm } : State) L mc ms ∧ ∀ z ∈ L, free z.base
def vx_Q (Qc : Array Value → State → Outcome → State → Prop) (XC : String → State → State → Prop) (mc ms : Nat) (free : Addr → Prop) : Array Value → State → Outcome → State → Prop := fun a st o t =>
  (Qc a st o t ∧ ∃ L, FrameEnd st o t L mc ms ∧ ∀ q ∈ L, free q.base) ∨ ∃ q, o = .threw q ∧ vx_T XC st q t mc ms free
/-- a callee that returns or throws -/
def vx_Met (l : Launch) (y : MethodName) (ws : List Cond) (rm : Room) (Pc : Array Value → State → Prop) (Qc : Array Value → State → Outcome → State → Prop) (XC : String → State → State → Prop) (mc ms : Nat) (free : Addr → Prop) : Prop :=
  MetFree l y (headSpec ws rm) Pc (fun _ _ _ _ _ => True) (vx_Q Qc XC mc ms free)
def vx_Post (XC : String → State → State → Prop) (mc ms : Nat) (free : Addr → Prop) : Pt → Array Value → Addr → Pt → Prop := fun A a q B =>
  ∃ (g : JFrame) (mk : MethodId) (t : State) (L : List Loc) (E : String) (ce : Cell), B.U.heap = t.heap ∧ B.U.vm = t.vm ∧ XC E (A.U.calling g mk a) t ∧ t.heap[q]? = some ce ∧ ce.vm = .none ∧ A.U.vm.findClass E = some ce.cls ∧ B.locs = A.locs ++ L ∧ (∀ z ∈ L, free z.base) ∧ B.cells = A.cells + mc ∧ B.slots = A.slots + ms
def vx_Back (l : Launch) (R : Room) (p : Program) (e : Env) (below : List Frame) (s : State) (sargs : Array Value) (y : MethodName) (len W9 : Nat)
    (Pre : Pt → Array Value → Prop) (Post : Pt → Array Value → Option Value → Pt → Prop) (PostX : Pt → Array Value → Addr → Pt → Prop) : Prop :=
  ∀ (m : MethodId) (meth : Method) (c : Code) (A : Pt) (g : JFrame) (ig : Instr) (mk : MethodId) (a : Array Value),
    Stand p l e R s m sargs below meth c A.U A.locs A.cells A.slots → g.method = m → g.locals.size = c.maxLocals → decode c.code g.pc = .ok (ig, len) →
    2 * g.monitorRoom + (g.stack.map fun v => v.category).sum ≤ W9 → A.U.methodNamed? y = some mk → Pre A a →
    (∃ (v : Option Value) (B : Pt), Stand p l e R s m sargs below meth c B.U B.locs B.cells B.slots ∧ Post A a v B ∧
      Steps p.tables e below (doInvoke e (A.U.setTop g) [] mk a).1 (B.U.setTop { g with pc := g.pc + len, stack := v.toList ++ g.stack })) ∨
    (∃ (q : Addr) (B : Pt), Stand p l e R s m sargs below meth c B.U B.locs B.cells B.slots ∧ PostX A a q B ∧
      Steps p.tables e below (doInvoke e (A.U.setTop g) [] mk a).1 ((B.U.setTop g).pushFrame (.throwing q)))
section Payer
variable {l : Launch} {R : Room} {p : Program} {e : Env} {below : List Frame} {s : State} {sargs : Array Value} {y : MethodName} {len W9 : Nat}
theorem vx_back {ws : List Cond} {rm : Room} {Pc : Array Value → State → Prop} {Qc : Array Value → State → Outcome → State → Prop} {XC : String → State → State → Prop} {mc ms : Nat} {free : Addr → Prop} {bytes : ByteArray} {maxL : Nat} {ret : Option FieldType}
    (hM : vx_Met l y ws rm Pc Qc XC mc ms free) (hblind : FrameBlind Pc) (hrc : rm.cells = mc) (hrs : rm.slots = ms)
    (hframes : rm.frames + 1 ≤ R.frames) (hlocals : W9 + (maxL + 11) + rm.locals ≤ R.locals)
    (hws : ∀ w ∈ ws, ∀ a' U, s.WarmedH U.vm → w.before a' U = true) (hcode : Cond.code y bytes maxL ret ∈ ws) (hinit : ∀ a' U, s.WarmedH U.vm → (Cond.initialized y.cls).before a' U = true) :
    vx_Back l R p e below s sargs y len W9 (PreOf R mc ms Pc) (PostOf Qc mc ms free) (vx_Post XC mc ms free) := by
  intro m meth c A g ig mk a X hg hsize hdg hW hn hp
  have h1 : (headSpec ws rm).pre.before a A.U = true := atoms_intro fun w hw => hws w hw _ _ X.warmed
  have h2 : (Cond.code y bytes maxL ret).before a A.U = true := hws _ hcode _ _ X.warmed
  have h3 : (Cond.initialized y.cls).before a A.U = true := hinit _ _ X.warmed
  have h4 : A.cells + (headSpec ws rm).room.cells ≤ R.cells := by rw [show (headSpec ws rm).room.cells = mc from hrc]; exact hp.1
  have h5 : A.slots + (headSpec ws rm).room.slots ≤ R.slots := by rw [show (headSpec ws rm).room.slots = ms from hrs]; exact hp.2.1
  have hPc : Pc a (A.U.calling g mk a) := hblind _ _ _ _ hp.2.2
  obtain ⟨U, Ls, c0, s0⟩ := A
  dsimp only [Pt.U, Pt.locs, Pt.cells, Pt.slots] at h1 h2 h3 h4 h5 X hn hPc ⊢
  obtain ⟨methY, cY, hmY, hcY, -, hlY, -, -, -, -⟩ := Cond.code_spec hn h2
  obtain ⟨kY, hkY, -⟩ := className_of_methodNamed hn
  have hinitY : kY.init = .initialized := Cond.initialized_spec (findClass_of_methodNamed hn) hkY h3
  have h : At U g.method c below := by rw [hg]; exact X.here
  have hlocals9 : W9 + (maxL + 11) + (headSpec ws rm).room.locals ≤ R.locals := hlocals
  have happ : (headSpec ws rm).appliesLoose y e.platform (U.calling g mk a) = true :=
    Spec.appliesLoose_calling (g := g) h hdg hn hkY hinitY
      (X.room_calling (g := g) (R' := (headSpec ws rm).room) hsize hmY hcY hframes (by rw [hlY]; omega) h4 h5) h1
  obtain ⟨mid, hmid⟩ := h.above
  have hfr : (U.setTop g).frames = (.java g :: mid) ++ below := by rw [State.frames_setTop' g h.top, hmid]; rfl
  obtain ⟨o, s₂, hsteps, -, hend, hq⟩ := Steps.callFree hM p X.admits X.cas X.clock (acts := []) hfr happ hPc trivial
  have hq' : vx_Q Qc XC mc ms free a (U.calling g mk a) o s₂ := hq
  rw [State.frames_setTop' g h.top] at hend
  obtain ⟨g₀, hg0⟩ := Option.isSome_iff_exists.mp h.top
  obtain ⟨r, hr⟩ := State.topJava?_eq_some.mp hg0
  have hr' : (({ U with heap := s₂.heap, slotsUsed := s₂.slotsUsed } : State).setVm s₂.vm).frames = .java g₀ :: r := hr
  rcases hq' with ⟨hqc, L, hfe, hL⟩ | ⟨q, rfl, E, ce, L, hx, hce, hcv, hcl, hW₂, hsm, hL⟩
  · obtain ⟨⟨v, rfl⟩, hW₂, e2, q2, q3, q4, q5, q6⟩ := id hfe
    have e3 : s₂ = ({ (U.calling g mk a).setFrames s₂.frames with heap := s₂.heap, slotsUsed := s₂.slotsUsed } : State).setVm s₂.vm := by
      have : s₂ = ({ s₂ with vm := (U.calling g mk a).vm } : State).setVm s₂.vm := rfl
      rw [e2] at this
      exact this
    obtain ⟨c₂, i₂, len₂, hc₂, hd₂, hf₂⟩ := hend
    have hW' : U.WarmedH s₂.vm := hW₂
    have hcc : c₂ = c := by
      have h1 : s₂.code? g.method = U.code? g.method := by
        rw [State.code?_eq, State.code?_eq, hW'.alike.method?]
      exact Option.some.inj (hc₂.symm.trans (h1.trans h.code))
    subst hcc
    have hlen : len₂ = len := by rw [hdg] at hd₂; cases hd₂; rfl
    subst hlen
    have hs₂ : s₂ = (({ U with heap := s₂.heap, slotsUsed := s₂.slotsUsed } : State).setVm s₂.vm).setTop { g with pc := g.pc + len₂, stack := v.toList ++ g.stack } := by
      refine e3.trans ?_
      rw [hf₂, State.calling_eq h.top, State.setFrames_setFrames, State.setTop_of_frames _ hr', hr]
      rfl
    have hsame : U.sameButNew ({ U with heap := s₂.heap, slotsUsed := s₂.slotsUsed } : State) L mc ms := by
      refine ⟨?_, q2, q3, q4, q5, q6⟩
      obtain ⟨t, ht, -⟩ := State.frames_cons hr
      show ({ U with heap := s₂.heap, slotsUsed := s₂.slotsUsed } : State) = { U.setFrames U.frames with heap := s₂.heap, slotsUsed := s₂.slotsUsed }
      rw [State.setFrames_self ht]
    subst hg
    refine Or.inl ⟨v, ⟨(({ U with heap := s₂.heap, slotsUsed := s₂.slotsUsed } : State).setVm s₂.vm), Ls ++ L, c0 + mc, s0 + ms⟩,
      ⟨X.admits, X.cas, X.clock, X.frames, X.room, X.hears, X.method, X.code, (X.here.setHeapUsed s₂.heap s₂.slotsUsed).setVm hW'.alike, X.tail, State.WarmedH.trans X.warmed hW', X.limits, X.bytes, X.same.trans (hsame.setVm s.vm)⟩,
      ⟨g, mk, s₂, L, rfl, rfl, hqc, rfl, hL, rfl, rfl⟩, ?_⟩
    show Steps p.tables e below _ ((({ U with heap := s₂.heap, slotsUsed := s₂.slotsUsed } : State).setVm s₂.vm).setTop { g with pc := g.pc + len₂, stack := v.toList ++ g.stack })
    rw [← hs₂]
    exact hsteps
  · obtain ⟨e2, q2, q3, q4, q5, q6⟩ := id hsm
    have e3 : s₂ = ({ (U.calling g mk a).setFrames s₂.frames with heap := s₂.heap, slotsUsed := s₂.slotsUsed } : State).setVm s₂.vm := by
      have : s₂ = ({ s₂ with vm := (U.calling g mk a).vm } : State).setVm s₂.vm := rfl
      rw [e2] at this
      exact this
    have hf₂ : s₂.frames = .throwing q :: .java g :: U.frames.tail := hend
    have hW' : U.WarmedH s₂.vm := hW₂
    have hs₂ : s₂ = ((({ U with heap := s₂.heap, slotsUsed := s₂.slotsUsed } : State).setVm s₂.vm).setTop g).pushFrame (.throwing q) := by
      refine e3.trans ?_
      rw [hf₂, State.calling_eq h.top, State.setFrames_setFrames, State.pushFrame, State.frames_setTop _ hr', State.setTop_of_frames _ hr', State.setFrames_setFrames, hr]
      rfl
    have hsame : U.sameButNew ({ U with heap := s₂.heap, slotsUsed := s₂.slotsUsed } : State) L mc ms := by
      refine ⟨?_, q2, q3, q4, q5, q6⟩
      obtain ⟨t, ht, -⟩ := State.frames_cons hr
      show ({ U with heap := s₂.heap, slotsUsed := s₂.slotsUsed } : State) = { U.setFrames U.frames with heap := s₂.heap, slotsUsed := s₂.slotsUsed }
      rw [State.setFrames_self ht]
    subst hg
    refine Or.inr ⟨q, ⟨(({ U with heap := s₂.heap, slotsUsed := s₂.slotsUsed } : State).setVm s₂.vm), Ls ++ L, c0 + mc, s0 + ms⟩,
      ⟨X.admits, X.cas, X.clock, X.frames, X.room, X.hears, X.method, X.code, (X.here.setHeapUsed s₂.heap s₂.slotsUsed).setVm hW'.alike, X.tail, State.WarmedH.trans X.warmed hW', X.limits, X.bytes, X.same.trans (hsame.setVm s.vm)⟩,
      ⟨g, mk, s₂, L, E, ce, rfl, rfl, hx, hce, hcv, hcl, rfl, hL, rfl, rfl⟩, ?_⟩
    show Steps p.tables e below _ (((({ U with heap := s₂.heap, slotsUsed := s₂.slotsUsed } : State).setVm s₂.vm).setTop g).pushFrame (.throwing q))
    rw [← hs₂]
    exact hsteps
end Payer
section Calls
variable {p : Program} {l : Launch} {e : Env} {R : Room} {s : State} {m : MethodId} {args : Array Value} {below : List Frame} {meth : Method} {c : Code} {T : State} {locs : List Loc} {cells slots : Nat}
theorem vx_callV (X : Stand p l e R s m args below meth c T locs cells slots) (hexec : p.tables.exec = Jvm.exec) {own C : String} {index : Nat} {y : MethodName} {bytes : ByteArray} {maxL : Nat} {ret : Option FieldType}
    (hown : s.vm.findClass own = some m.cls) (hlink : (Cond.methodLink own index y).before args s = true) (hinst : (Cond.instanceMethod y).before args s = true) (hsel : (Cond.selects C y y).before args s = true)
    (hcode : (Cond.code y bytes maxL ret).before args s = true) (hy : y.cls ≠ "java/lang/invoke/MethodHandle" ∧ y.cls ≠ "java/lang/invoke/VarHandle")
    {W9 : Nat} {Pre : Pt → Array Value → Prop} {Post : Pt → Array Value → Option Value → Pt → Prop} {PostX : Pt → Array Value → Addr → Pt → Prop} (hK : vx_Back l R p e below s args y 3 W9 Pre Post PostX)
    {b : Addr} {cellB : Cell} (hcell : T.heap[b]? = some cellB) (hobj : cellB.vm.isStatics = false) (hcls : s.vm.findClass C = some cellB.cls)
    {g : JFrame} (hg : g.method = m) (hsize : g.locals.size = c.maxLocals) {argsL rest : List Value} (hlen : ∀ sig, parseMethodDescriptor y.desc = some sig → argsL.length = sig.parameters.length)
    (hstack : g.stack = argsL.reverse ++ .ref b :: rest) (hW : 2 * g.monitorRoom + (rest.map fun v => v.category).sum ≤ W9) (hdg : decode c.code g.pc = .ok (.invokevirtual index, 3))
    (hpre : ∀ vm₁, s.WarmedH vm₁ → Pre ⟨T.setVm vm₁, locs, cells, slots⟩ (Value.ref b :: argsL).toArray) :
    (∃ (v : Option Value) (vm₁ : Vm) (B : Pt), s.WarmedH vm₁ ∧ Stand p l e R s m args below meth c B.U B.locs B.cells B.slots ∧ Post ⟨T.setVm vm₁, locs, cells, slots⟩ (Value.ref b :: argsL).toArray v B ∧
      ∀ target, Steps p.tables e below (B.U.setTop { g with pc := g.pc + 3, stack := v.toList ++ rest }) target → Steps p.tables e below (T.setTop g) target) ∨
    (∃ (q : Addr) (vm₁ : Vm) (B : Pt), s.WarmedH vm₁ ∧ Stand p l e R s m args below meth c B.U B.locs B.cells B.slots ∧ PostX ⟨T.setVm vm₁, locs, cells, slots⟩ (Value.ref b :: argsL).toArray q B ∧
      Steps p.tables e below (T.setTop g) ((B.U.setTop { g with stack := rest }).pushFrame (.throwing q))) := by
  obtain ⟨mk, methM, hnamed, hmethM, hstM, habM⟩ := Cond.instanceMethod_spec hinst
  obtain ⟨methM', cM, hmethM', -, -, -, -, -, -, hsigM⟩ := Cond.code_spec hnamed hcode
  cases hmethM.symm.trans hmethM'
  obtain ⟨c2, r2, m2, q1, q2, q3, q4, kP, hkP, hkPi⟩ := Cond.selects_spec hsel
  cases hcls.symm.trans q1
  cases (State.methodFound?_of_named hnamed hy).symm.trans q2
  cases hnamed.symm.trans q3
  have hselP : selectMethod e.platform s.vm cellB.cls mk = .method mk := by rw [Launch.admits_selectMethod X.admits]; exact q4
  obtain ⟨vm₁, X₁, hstep₁⟩ := X.invokevirtual hexec hown hlink hnamed hmethM hstM hkP hkPi hy (a := b) (cell := cellB) hcell
    (fun z h => by rw [h] at hobj; cases hobj) hselP hmethM habM hkP hkPi (g := g) hg (argsL := argsL) (rest := rest) (hlen _ hsigM) hstack hdg
  rcases hK m meth c ⟨T.setVm vm₁, locs, cells, slots⟩ { g with stack := rest } (.invokevirtual index) mk (Value.ref b :: argsL).toArray X₁ hg hsize hdg hW (X₁.named hnamed) (hpre vm₁ X₁.warmed) with ⟨v, B, X', hpost, hsteps⟩ | ⟨q, B, X', hpost, hsteps⟩
  · exact Or.inl ⟨v, vm₁, B, X₁.warmed, X', hpost, fun target h => hstep₁ _ fun acts => by rw [doInvoke_state]; exact hsteps.trans h⟩
  · exact Or.inr ⟨q, vm₁, B, X₁.warmed, X', hpost, hstep₁ _ fun acts => by rw [doInvoke_state]; exact hsteps⟩
theorem vx_callS (X : Stand p l e R s m args below meth c T locs cells slots) (hexec : p.tables.exec = Jvm.exec) {own : String} {index : Nat} {y : MethodName} {bytes : ByteArray} {maxL : Nat} {ret : Option FieldType}
    (hown : s.vm.findClass own = some m.cls) (hlink : (Cond.methodLink own index y).before args s = true) (hstat : (Cond.static y).before args s = true) (hinit : (Cond.initialized y.cls).before args s = true)
    (hcode : (Cond.code y bytes maxL ret).before args s = true) (hy : y.cls ≠ "java/lang/invoke/MethodHandle" ∧ y.cls ≠ "java/lang/invoke/VarHandle")
    {W9 : Nat} {Pre : Pt → Array Value → Prop} {Post : Pt → Array Value → Option Value → Pt → Prop} {PostX : Pt → Array Value → Addr → Pt → Prop} (hK : vx_Back l R p e below s args y 3 W9 Pre Post PostX)
    {g : JFrame} (hg : g.method = m) (hsize : g.locals.size = c.maxLocals) {argsL rest : List Value} (hlen : ∀ sig, parseMethodDescriptor y.desc = some sig → argsL.length = sig.parameters.length)
    (hstack : g.stack = argsL.reverse ++ rest) (hW : 2 * g.monitorRoom + (rest.map fun v => v.category).sum ≤ W9) (hdg : decode c.code g.pc = .ok (.invokestatic index, 3))
    (hpre : ∀ vm₁, s.WarmedH vm₁ → Pre ⟨T.setVm vm₁, locs, cells, slots⟩ argsL.toArray) :
    (∃ (v : Option Value) (vm₁ : Vm) (B : Pt), s.WarmedH vm₁ ∧ Stand p l e R s m args below meth c B.U B.locs B.cells B.slots ∧ Post ⟨T.setVm vm₁, locs, cells, slots⟩ argsL.toArray v B ∧
      ∀ target, Steps p.tables e below (B.U.setTop { g with pc := g.pc + 3, stack := v.toList ++ rest }) target → Steps p.tables e below (T.setTop g) target) ∨
    (∃ (q : Addr) (vm₁ : Vm) (B : Pt), s.WarmedH vm₁ ∧ Stand p l e R s m args below meth c B.U B.locs B.cells B.slots ∧ PostX ⟨T.setVm vm₁, locs, cells, slots⟩ argsL.toArray q B ∧
      Steps p.tables e below (T.setTop g) ((B.U.setTop { g with stack := rest }).pushFrame (.throwing q))) := by
  obtain ⟨mk, hnamed⟩ := Cond.code_named hcode
  obtain ⟨methM, cM, hmethM, -, -, -, -, -, -, hsigM⟩ := Cond.code_spec hnamed hcode
  have hstatic : methM.isStatic = true := Cond.static_spec hnamed hmethM hstat
  obtain ⟨kP, hkP, -⟩ := className_of_methodNamed hnamed
  have hinitP : kP.init = .initialized := Cond.initialized_spec (findClass_of_methodNamed hnamed) hkP hinit
  obtain ⟨vm₁, X₁, hstep₁⟩ := X.invokestatic hexec hown hlink hnamed hmethM hstatic hkP hinitP hy (g := g) hg (argsL := argsL) (rest := rest) (hlen _ hsigM) hstack hdg
  rcases hK m meth c ⟨T.setVm vm₁, locs, cells, slots⟩ { g with stack := rest } (.invokestatic index) mk argsL.toArray X₁ hg hsize hdg hW (X₁.named hnamed) (hpre vm₁ X₁.warmed) with ⟨v, B, X', hpost, hsteps⟩ | ⟨q, B, X', hpost, hsteps⟩
  · exact Or.inl ⟨v, vm₁, B, X₁.warmed, X', hpost, fun target h => hstep₁ _ fun acts => by rw [doInvoke_state]; exact hsteps.trans h⟩
  · exact Or.inr ⟨q, vm₁, B, X₁.warmed, X', hpost, hstep₁ _ fun acts => by rw [doInvoke_state]; exact hsteps⟩
end Calls
theorem vx_cls {s : State} {T : State} {vm₁ : Vm} {E : String} {k : ClassId} (hW : s.WarmedH vm₁) (h : (T.setVm vm₁).vm.findClass E = some k) : s.vm.findClass E = some k := by
  have h1 : vm₁.findClass E = some k := h
  rw [hW.alike.findClass] at h1
  exact h1
/-- the method's frame g, with q thrown over it -/
def vx_W (p : Program) (l : Launch) (e : Env) (R : Room) (s : State) (m : MethodId) (args : Array Value) (below : List Frame) (meth : Method) (c : Code) (H : Heap) (locs : List Loc) (cells slots : Nat) (Q : State → Prop) (g : JFrame) (q : Addr) : Prop :=
  ∀ T : State, T.heap = H → Stand p l e R s m args below meth c T locs cells slots → ∃ t, Steps p.tables e below ((T.setTop g).pushFrame (.throwing q)) t ∧ Q t
def vx_Run (p : Program) (l : Launch) (e : Env) (R : Room) (s : State) (m : MethodId) (args : Array Value) (below : List Frame) (meth : Method) (c : Code) (H : Heap) (locs : List Loc) (cells slots mc ms : Nat) (g : JFrame) (rest : List Value) (Qa : State → Outcome → State → Prop) (XC : String → State → State → Prop) (free : Addr → Prop) : Prop :=
  ∀ T : State, T.heap = H → Stand p l e R s m args below meth c T locs cells slots →
    (∃ (v : Option Value) (st₀ t T' : State) (L : List Loc), st₀.heap = H ∧ Stand p l e R s m args below meth c T' (locs ++ L) (cells + mc) (slots + ms) ∧ (∀ q ∈ L, free q.base) ∧ T'.heap = t.heap ∧ T'.vm = t.vm ∧ Qa st₀ (.returned v) t ∧
      Goes p e below T g T' { g with pc := g.pc + 3, stack := v.toList ++ rest }) ∨
    (∃ (q : Addr) (st₀ t T' : State) (L : List Loc) (E : String) (ce : Cell), st₀.heap = H ∧ Stand p l e R s m args below meth c T' (locs ++ L) (cells + mc) (slots + ms) ∧ (∀ z ∈ L, free z.base) ∧ T'.heap = t.heap ∧ T'.vm = t.vm ∧ XC E st₀ t ∧ t.heap[q]? = some ce ∧ ce.vm = .none ∧ s.vm.findClass E = some ce.cls ∧
      Steps p.tables e below (T.setTop g) ((T'.setTop { g with stack := rest }).pushFrame (.throwing q)))
def vx_X {S : Type} (px : S → Prop) (B : String → S → State → Prop) (A : Nat → Prop) : String → State → State → Prop := fun E st t => ∃ u : S, px u ∧ B E u t ∧ va_F A st t
section Runs
variable {p : Program} {l : Launch} {e : Env} {R : Room} {s : State} {m : MethodId} {args : Array Value} {below : List Frame} {meth : Method} {c : Code} {H : Heap} {locs : List Loc} {cells slots : Nat}
variable {y : MethodName} {bytes cc : ByteArray} {maxL nL mc ms n index : Nat} {ret : Option FieldType} {ws : List Cond} {rm : Room} {Pc : Array Value → State → Prop} {Qc : Array Value → State → Outcome → State → Prop} {XC : String → State → State → Prop} {free : Addr → Prop} {Ts : List Cond} {own C : String} {b : Addr} {As rest : List Value} {g : JFrame}
theorem vx_callBack (cb : CallB R s args own index y bytes maxL ret ws rm mc ms n) (hM : vx_Met l y ws rm Pc Qc XC mc ms free) (hbl : FrameBlind Pc) : vx_Back l R p e below s args y 3 8 (PreOf R mc ms Pc) (PostOf Qc mc ms free) (vx_Post XC mc ms free) := by
  obtain ⟨hrc, hrs, hfr, hlo, hws, hcw, -, hini, -⟩ := cb
  exact vx_back (bytes := bytes) (maxL := maxL) (ret := ret) hM hbl hrc hrs hfr hlo hws hcw (fun a' U hW => word_at hW (Or.inl (by first | rfl | simp [Cond.onTables, Cond.keeps, Cond.steady])) hini)
theorem vx_runV (S : CallFix p m c cc nL s args Ts own) (hM : vx_Met l y ws rm Pc Qc XC mc ms free) (cw : CallW R s args own C index y bytes maxL ret ws rm mc ms n) (hp : PreV s H C b Pc As)
    (hg : g.method = m) (hn : As.length = n) (hsize : g.locals.size = nL) (hstack : g.stack = As.reverse ++ .ref b :: rest) (hW : 2 * g.monitorRoom + (rest.map fun v => v.category).sum ≤ 8) (hdg : decode cc g.pc = .ok (.invokevirtual index, 3)) (hf : cells + mc ≤ R.cells ∧ slots + ms ≤ R.slots) :
    vx_Run p l e R s m args below meth c H locs cells slots mc ms g rest (Qc (Value.ref b :: As).toArray) XC free := by
  have hK : vx_Back l R p e below s args y 3 8 (PreOf R mc ms Pc) (PostOf Qc mc ms free) (vx_Post XC mc ms free) := vx_callBack cw.1 hM hp.1
  obtain ⟨⟨-, -, -, -, -, -, hcode, -, hy, hlen, hl⟩, hin, hse⟩ := cw
  obtain ⟨hx, hb, hml, ho, -⟩ := S
  obtain ⟨-, ⟨cellB, hcB, hoB, hclB⟩, hPc⟩ := hp
  intro T hT X
  rcases vx_callV X hx (C := C) (bytes := bytes) (maxL := maxL) (ret := ret) ho hl hin hse hcode hy hK (by rw [hT]; exact hcB) hoB hclB hg (hsize.trans hml.symm) (argsL := As) (rest := rest) (fun sig h => hn.trans (hlen sig h)) hstack hW (by rw [hb]; exact hdg)
    (fun vm₁ hW₁ => ⟨hf.1, hf.2, hPc (T.setVm vm₁) hT hW₁⟩) with ⟨v, vm₁, ⟨U', l2, c2, s2⟩, hW₁, X', ⟨g', mk, t, L, e1, e2, hq, h1, hL, h2, h3⟩, st⟩ | ⟨q, vm₁, ⟨U', l2, c2, s2⟩, hW₁, X', ⟨g', mk, t, L, E, ce, e1, e2, hq, hce, hcv, hcl, h1, hL, h2, h3⟩, st⟩
  · dsimp only [Pt.U, Pt.locs, Pt.cells, Pt.slots] at X' e1 e2 h1 h2 h3 st
    subst h1; subst h2; subst h3
    exact Or.inl ⟨v, (T.setVm vm₁).calling g' mk (Value.ref b :: As).toArray, t, U', L, hT, X', hL, e1, e2, hq, st⟩
  · dsimp only [Pt.U, Pt.locs, Pt.cells, Pt.slots] at X' e1 e2 h1 h2 h3 st hcl
    subst h1; subst h2; subst h3
    exact Or.inr ⟨q, (T.setVm vm₁).calling g' mk (Value.ref b :: As).toArray, t, U', L, E, ce, hT, X', hL, e1, e2, hq, hce, hcv, vx_cls hW₁ hcl, st⟩
theorem vx_runS (S : CallFix p m c cc nL s args Ts own) (hM : vx_Met l y ws rm Pc Qc XC mc ms free) (cw : CallB R s args own index y bytes maxL ret ws rm mc ms n ∧ (Cond.static y).before args s = true) (hp : PreS s H Pc As)
    (hg : g.method = m) (hn : As.length = n) (hsize : g.locals.size = nL) (hstack : g.stack = As.reverse ++ rest) (hW : 2 * g.monitorRoom + (rest.map fun v => v.category).sum ≤ 8) (hdg : decode cc g.pc = .ok (.invokestatic index, 3)) (hf : cells + mc ≤ R.cells ∧ slots + ms ≤ R.slots) :
    vx_Run p l e R s m args below meth c H locs cells slots mc ms g rest (Qc As.toArray) XC free := by
  have hK : vx_Back l R p e below s args y 3 8 (PreOf R mc ms Pc) (PostOf Qc mc ms free) (vx_Post XC mc ms free) := vx_callBack cw.1 hM hp.1
  obtain ⟨⟨-, -, -, -, -, -, hcode, hini, hy, hlen, hl⟩, hstt⟩ := cw
  obtain ⟨hx, hb, hml, ho, -⟩ := S
  intro T hT X
  rcases vx_callS X hx (bytes := bytes) (maxL := maxL) (ret := ret) ho hl hstt hini hcode hy hK hg (hsize.trans hml.symm) (argsL := As) (rest := rest) (fun sig h => hn.trans (hlen sig h)) hstack hW (by rw [hb]; exact hdg)
    (fun vm₁ hW₁ => ⟨hf.1, hf.2, hp.2 (T.setVm vm₁) hT hW₁⟩) with ⟨v, vm₁, ⟨U', l2, c2, s2⟩, hW₁, X', ⟨g', mk, t, L, e1, e2, hq, h1, hL, h2, h3⟩, st⟩ | ⟨q, vm₁, ⟨U', l2, c2, s2⟩, hW₁, X', ⟨g', mk, t, L, E, ce, e1, e2, hq, hce, hcv, hcl, h1, hL, h2, h3⟩, st⟩
  · dsimp only [Pt.U, Pt.locs, Pt.cells, Pt.slots] at X' e1 e2 h1 h2 h3 st
    subst h1; subst h2; subst h3
    exact Or.inl ⟨v, (T.setVm vm₁).calling g' mk As.toArray, t, U', L, hT, X', hL, e1, e2, hq, st⟩
  · dsimp only [Pt.U, Pt.locs, Pt.cells, Pt.slots] at X' e1 e2 h1 h2 h3 st hcl
    subst h1; subst h2; subst h3
    exact Or.inr ⟨q, (T.setVm vm₁).calling g' mk As.toArray, t, U', L, E, ce, hT, X', hL, e1, e2, hq, hce, hcv, vx_cls hW₁ hcl, st⟩
end Runs
section Rows
variable {p : Program} {l : Launch} {e : Env} {R : Room} {s : State} {m : MethodId} {args : Array Value} {below : List Frame} {meth : Method} {c : Code} {H : Heap} {locs : List Loc} {cells slots : Nat} {Q : State → Prop}
variable {mc ms : Nat} {free : Addr → Prop} {A0 A1 : Nat → Prop} {H0 : Heap} {a : Array Value} {pc : Nat} {ls : Array Slot} {st0 rest : List Value}
theorem vx_keep {st₀ t T' : State} {L : List Loc} (h0 : st₀.heap = H) (e1 : T'.heap = t.heap) (hS : va_S A0 H0 H locs) (hA : ∀ q, q < H.size → A1 q → A0 q) (hf : ∀ q, free q → A0 q) (hL : ∀ q ∈ L, free q.base) (hF : va_F A1 st₀ t) :
    H.size ≤ T'.heap.size ∧ (∀ q : Nat, q < H.size → ¬ A1 q → T'.heap[q]? = H[q]?) ∧ va_S A0 H0 T'.heap (locs ++ L) := by
  obtain ⟨hz, hk⟩ := hF
  rw [h0] at hz hk
  exact ⟨by rw [e1]; exact hz, fun q h1 h2 => by rw [e1]; exact hk q h1 h2,
    ⟨Nat.le_trans hS.1 (by rw [e1]; exact hz), fun q h1 h2 => by rw [e1, hk q (Nat.lt_of_lt_of_le h1 hS.1) (fun z => h2 (hA q (Nat.lt_of_lt_of_le h1 hS.1) z))]; exact hS.2.1 q h1 h2, fun q hq => by
      rcases List.mem_append.mp hq with h | h
      · exact hS.2.2 q h
      · exact hf _ (hL q h)⟩⟩
theorem vx_calli {S SX : Type} {post : Int32 → S → Prop} {px : SX → Prop} {B : S → State → Prop} {BX : String → SX → State → Prop} {AX : Nat → Prop} (hr : vx_Run p l e R s m args below meth c H locs cells slots mc ms (F0 m pc ls st0) rest (va_Qi post B A1 a) (vx_X px BX AX) free) (hS : va_S A0 H0 H locs) (hA : ∀ q, q < H.size → A1 q → A0 q) (hf : ∀ q, free q → A0 q) (hAX : ∀ q, q < H.size → AX q → A0 q)
    (kx : ∀ (E : String) (ce : Cell) (q9 : Addr) (u : SX) (t : State) (H1 : Heap) (locs1 : List Loc), t.heap = H1 → s.vm.Alike t.vm → px u → BX E u t → H.size ≤ H1.size → (∀ q : Nat, q < H.size → ¬ AX q → H1[q]? = H[q]?) → va_S A0 H0 H1 locs1 → H1[q9]? = some ce → ce.vm = .none → s.vm.findClass E = some ce.cls → vx_W p l e R s m args below meth c H1 locs1 (cells + mc) (slots + ms) Q (F0 m pc ls rest) q9)
    (kk : ∀ (r : Int32) (u : S) (t : State) (H1 : Heap) (locs1 : List Loc), t.heap = H1 → s.vm.Alike t.vm → post r u → B u t → H.size ≤ H1.size → (∀ q : Nat, q < H.size → ¬ A1 q → H1[q]? = H[q]?) → va_S A0 H0 H1 locs1 → W p l e R s m args below meth c H1 locs1 (cells + mc) (slots + ms) Q (F0 m (pc + 3) ls (.int r :: rest))) : W p l e R s m args below meth c H locs cells slots Q (F0 m pc ls st0) := by
  intro T hT X
  rcases hr T hT X with ⟨v, st₀, t, T', L, h0, X', hL, e1, e2, ⟨⟨r, u, hv, hp, hb⟩, hF⟩, st⟩ | ⟨q, st₀, t, T', L, E, ce, h0, X', hL, e1, e2, ⟨u, hp, hb, hF⟩, hce, hcv, hcl, st⟩
  · cases hv
    obtain ⟨k1, k2, k3⟩ := vx_keep h0 e1 hS hA hf hL hF
    obtain ⟨t2, a1, b1⟩ := kk r u t T'.heap (locs ++ L) e1.symm (by rw [← e2]; exact X'.warmed.alike) hp hb k1 k2 k3 T' rfl X'
    exact ⟨t2, st t2 a1, b1⟩
  · obtain ⟨k1, k2, k3⟩ := vx_keep h0 e1 hS hAX hf hL hF
    obtain ⟨t2, a1, b1⟩ := kx E ce q u t T'.heap (locs ++ L) e1.symm (by rw [← e2]; exact X'.warmed.alike) hp hb k1 k2 k3 (by rw [e1]; exact hce) hcv hcl T' rfl X'
    exact ⟨t2, st.trans a1, b1⟩
theorem vx_calll {S SX : Type} {post : Int64 → S → Prop} {px : SX → Prop} {B : S → State → Prop} {BX : String → SX → State → Prop} {AX : Nat → Prop} (hr : vx_Run p l e R s m args below meth c H locs cells slots mc ms (F0 m pc ls st0) rest (va_Ql post B A1 a) (vx_X px BX AX) free) (hS : va_S A0 H0 H locs) (hA : ∀ q, q < H.size → A1 q → A0 q) (hf : ∀ q, free q → A0 q) (hAX : ∀ q, q < H.size → AX q → A0 q)
    (kx : ∀ (E : String) (ce : Cell) (q9 : Addr) (u : SX) (t : State) (H1 : Heap) (locs1 : List Loc), t.heap = H1 → s.vm.Alike t.vm → px u → BX E u t → H.size ≤ H1.size → (∀ q : Nat, q < H.size → ¬ AX q → H1[q]? = H[q]?) → va_S A0 H0 H1 locs1 → H1[q9]? = some ce → ce.vm = .none → s.vm.findClass E = some ce.cls → vx_W p l e R s m args below meth c H1 locs1 (cells + mc) (slots + ms) Q (F0 m pc ls rest) q9)
    (kk : ∀ (r : Int64) (u : S) (t : State) (H1 : Heap) (locs1 : List Loc), t.heap = H1 → s.vm.Alike t.vm → post r u → B u t → H.size ≤ H1.size → (∀ q : Nat, q < H.size → ¬ A1 q → H1[q]? = H[q]?) → va_S A0 H0 H1 locs1 → W p l e R s m args below meth c H1 locs1 (cells + mc) (slots + ms) Q (F0 m (pc + 3) ls (.long r :: rest))) : W p l e R s m args below meth c H locs cells slots Q (F0 m pc ls st0) := by
  intro T hT X
  rcases hr T hT X with ⟨v, st₀, t, T', L, h0, X', hL, e1, e2, ⟨⟨r, u, hv, hp, hb⟩, hF⟩, st⟩ | ⟨q, st₀, t, T', L, E, ce, h0, X', hL, e1, e2, ⟨u, hp, hb, hF⟩, hce, hcv, hcl, st⟩
  · cases hv
    obtain ⟨k1, k2, k3⟩ := vx_keep h0 e1 hS hA hf hL hF
    obtain ⟨t2, a1, b1⟩ := kk r u t T'.heap (locs ++ L) e1.symm (by rw [← e2]; exact X'.warmed.alike) hp hb k1 k2 k3 T' rfl X'
    exact ⟨t2, st t2 a1, b1⟩
  · obtain ⟨k1, k2, k3⟩ := vx_keep h0 e1 hS hAX hf hL hF
    obtain ⟨t2, a1, b1⟩ := kx E ce q u t T'.heap (locs ++ L) e1.symm (by rw [← e2]; exact X'.warmed.alike) hp hb k1 k2 k3 (by rw [e1]; exact hce) hcv hcl T' rfl X'
    exact ⟨t2, st.trans a1, b1⟩
theorem vx_callf {S SX : Type} {post : UInt32 → S → Prop} {px : SX → Prop} {B : S → State → Prop} {BX : String → SX → State → Prop} {AX : Nat → Prop} (hr : vx_Run p l e R s m args below meth c H locs cells slots mc ms (F0 m pc ls st0) rest (va_Qf post B A1 a) (vx_X px BX AX) free) (hS : va_S A0 H0 H locs) (hA : ∀ q, q < H.size → A1 q → A0 q) (hf : ∀ q, free q → A0 q) (hAX : ∀ q, q < H.size → AX q → A0 q)
    (kx : ∀ (E : String) (ce : Cell) (q9 : Addr) (u : SX) (t : State) (H1 : Heap) (locs1 : List Loc), t.heap = H1 → s.vm.Alike t.vm → px u → BX E u t → H.size ≤ H1.size → (∀ q : Nat, q < H.size → ¬ AX q → H1[q]? = H[q]?) → va_S A0 H0 H1 locs1 → H1[q9]? = some ce → ce.vm = .none → s.vm.findClass E = some ce.cls → vx_W p l e R s m args below meth c H1 locs1 (cells + mc) (slots + ms) Q (F0 m pc ls rest) q9)
    (kk : ∀ (r : UInt32) (u : S) (t : State) (H1 : Heap) (locs1 : List Loc), t.heap = H1 → s.vm.Alike t.vm → post r u → B u t → H.size ≤ H1.size → (∀ q : Nat, q < H.size → ¬ A1 q → H1[q]? = H[q]?) → va_S A0 H0 H1 locs1 → W p l e R s m args below meth c H1 locs1 (cells + mc) (slots + ms) Q (F0 m (pc + 3) ls (.float r :: rest))) : W p l e R s m args below meth c H locs cells slots Q (F0 m pc ls st0) := by
  intro T hT X
  rcases hr T hT X with ⟨v, st₀, t, T', L, h0, X', hL, e1, e2, ⟨⟨r, u, hv, hp, hb⟩, hF⟩, st⟩ | ⟨q, st₀, t, T', L, E, ce, h0, X', hL, e1, e2, ⟨u, hp, hb, hF⟩, hce, hcv, hcl, st⟩
  · cases hv
    obtain ⟨k1, k2, k3⟩ := vx_keep h0 e1 hS hA hf hL hF
    obtain ⟨t2, a1, b1⟩ := kk r u t T'.heap (locs ++ L) e1.symm (by rw [← e2]; exact X'.warmed.alike) hp hb k1 k2 k3 T' rfl X'
    exact ⟨t2, st t2 a1, b1⟩
  · obtain ⟨k1, k2, k3⟩ := vx_keep h0 e1 hS hAX hf hL hF
    obtain ⟨t2, a1, b1⟩ := kx E ce q u t T'.heap (locs ++ L) e1.symm (by rw [← e2]; exact X'.warmed.alike) hp hb k1 k2 k3 (by rw [e1]; exact hce) hcv hcl T' rfl X'
    exact ⟨t2, st.trans a1, b1⟩
theorem vx_calld {S SX : Type} {post : UInt64 → S → Prop} {px : SX → Prop} {B : S → State → Prop} {BX : String → SX → State → Prop} {AX : Nat → Prop} (hr : vx_Run p l e R s m args below meth c H locs cells slots mc ms (F0 m pc ls st0) rest (va_Qd post B A1 a) (vx_X px BX AX) free) (hS : va_S A0 H0 H locs) (hA : ∀ q, q < H.size → A1 q → A0 q) (hf : ∀ q, free q → A0 q) (hAX : ∀ q, q < H.size → AX q → A0 q)
    (kx : ∀ (E : String) (ce : Cell) (q9 : Addr) (u : SX) (t : State) (H1 : Heap) (locs1 : List Loc), t.heap = H1 → s.vm.Alike t.vm → px u → BX E u t → H.size ≤ H1.size → (∀ q : Nat, q < H.size → ¬ AX q → H1[q]? = H[q]?) → va_S A0 H0 H1 locs1 → H1[q9]? = some ce → ce.vm = .none → s.vm.findClass E = some ce.cls → vx_W p l e R s m args below meth c H1 locs1 (cells + mc) (slots + ms) Q (F0 m pc ls rest) q9)
    (kk : ∀ (r : UInt64) (u : S) (t : State) (H1 : Heap) (locs1 : List Loc), t.heap = H1 → s.vm.Alike t.vm → post r u → B u t → H.size ≤ H1.size → (∀ q : Nat, q < H.size → ¬ A1 q → H1[q]? = H[q]?) → va_S A0 H0 H1 locs1 → W p l e R s m args below meth c H1 locs1 (cells + mc) (slots + ms) Q (F0 m (pc + 3) ls (.double r :: rest))) : W p l e R s m args below meth c H locs cells slots Q (F0 m pc ls st0) := by
  intro T hT X
  rcases hr T hT X with ⟨v, st₀, t, T', L, h0, X', hL, e1, e2, ⟨⟨r, u, hv, hp, hb⟩, hF⟩, st⟩ | ⟨q, st₀, t, T', L, E, ce, h0, X', hL, e1, e2, ⟨u, hp, hb, hF⟩, hce, hcv, hcl, st⟩
  · cases hv
    obtain ⟨k1, k2, k3⟩ := vx_keep h0 e1 hS hA hf hL hF
    obtain ⟨t2, a1, b1⟩ := kk r u t T'.heap (locs ++ L) e1.symm (by rw [← e2]; exact X'.warmed.alike) hp hb k1 k2 k3 T' rfl X'
    exact ⟨t2, st t2 a1, b1⟩
  · obtain ⟨k1, k2, k3⟩ := vx_keep h0 e1 hS hAX hf hL hF
    obtain ⟨t2, a1, b1⟩ := kx E ce q u t T'.heap (locs ++ L) e1.symm (by rw [← e2]; exact X'.warmed.alike) hp hb k1 k2 k3 (by rw [e1]; exact hce) hcv hcl T' rfl X'
    exact ⟨t2, st.trans a1, b1⟩
theorem vx_callv {S SX : Type} {post : S → Prop} {px : SX → Prop} {B : S → State → Prop} {BX : String → SX → State → Prop} {AX : Nat → Prop} (hr : vx_Run p l e R s m args below meth c H locs cells slots mc ms (F0 m pc ls st0) rest (va_Qv post B A1 a) (vx_X px BX AX) free) (hS : va_S A0 H0 H locs) (hA : ∀ q, q < H.size → A1 q → A0 q) (hf : ∀ q, free q → A0 q) (hAX : ∀ q, q < H.size → AX q → A0 q)
    (kx : ∀ (E : String) (ce : Cell) (q9 : Addr) (u : SX) (t : State) (H1 : Heap) (locs1 : List Loc), t.heap = H1 → s.vm.Alike t.vm → px u → BX E u t → H.size ≤ H1.size → (∀ q : Nat, q < H.size → ¬ AX q → H1[q]? = H[q]?) → va_S A0 H0 H1 locs1 → H1[q9]? = some ce → ce.vm = .none → s.vm.findClass E = some ce.cls → vx_W p l e R s m args below meth c H1 locs1 (cells + mc) (slots + ms) Q (F0 m pc ls rest) q9)
    (kk : ∀ (u : S) (t : State) (H1 : Heap) (locs1 : List Loc), t.heap = H1 → s.vm.Alike t.vm → post u → B u t → H.size ≤ H1.size → (∀ q : Nat, q < H.size → ¬ A1 q → H1[q]? = H[q]?) → va_S A0 H0 H1 locs1 → W p l e R s m args below meth c H1 locs1 (cells + mc) (slots + ms) Q (F0 m (pc + 3) ls (rest))) : W p l e R s m args below meth c H locs cells slots Q (F0 m pc ls st0) := by
  intro T hT X
  rcases hr T hT X with ⟨v, st₀, t, T', L, h0, X', hL, e1, e2, ⟨⟨u, hv, hp, hb⟩, hF⟩, st⟩ | ⟨q, st₀, t, T', L, E, ce, h0, X', hL, e1, e2, ⟨u, hp, hb, hF⟩, hce, hcv, hcl, st⟩
  · cases hv
    obtain ⟨k1, k2, k3⟩ := vx_keep h0 e1 hS hA hf hL hF
    obtain ⟨t2, a1, b1⟩ := kk u t T'.heap (locs ++ L) e1.symm (by rw [← e2]; exact X'.warmed.alike) hp hb k1 k2 k3 T' rfl X'
    exact ⟨t2, st t2 a1, b1⟩
  · obtain ⟨k1, k2, k3⟩ := vx_keep h0 e1 hS hAX hf hL hF
    obtain ⟨t2, a1, b1⟩ := kx E ce q u t T'.heap (locs ++ L) e1.symm (by rw [← e2]; exact X'.warmed.alike) hp hb k1 k2 k3 (by rw [e1]; exact hce) hcv hcl T' rfl X'
    exact ⟨t2, st.trans a1, b1⟩
/-- caught by the row x of this method's table; the rows ahead don't take it -/
theorem vx_catch {own name : String} {E : String} {ce : Cell} {q : Addr} (hown : s.vm.findClass own = some m.cls) (pre : List ExceptionTableEntry) (x : ExceptionTableEntry) (suf : List ExceptionTableEntry) (hsplit : c.exceptionTable.toList = pre ++ x :: suf)
    (hpass : ∀ z ∈ pre, covers z pc = false ∨ (z.catchType ≠ 0 ∧ ∃ nm : String, (Cond.classLink own z.catchType nm).before args s = true ∧ va_Nc E nm s)) (hx : covers x pc = true) (h0 : x.catchType ≠ 0)
    (hlink : (Cond.classLink own x.catchType name).before args s = true) (hcast : (Cond.castable E name).before args s = true) (hcell : H[q]? = some ce) (hv : ce.vm = .none) (hcl : s.vm.findClass E = some ce.cls)
    (kk : W p l e R s m args below meth c H locs cells slots Q (F0 m x.handlerPc ls [.ref q])) : vx_W p l e R s m args below meth c H locs cells slots Q (F0 m pc ls rest) q := by
  intro T hT X
  have hpl : e.platform.magicAccessors = ({} : Platform).magicAccessors := by rw [X.admits.platform]
  obtain ⟨c3, c4, hc3, hc4, hasg⟩ := Cond.castable_spec hcast
  cases Option.some.inj (hc3.symm.trans hcl)
  obtain ⟨c5, hc5, hcl5⟩ := Cond.classLink_spec hown hlink e.platform hpl
  cases Option.some.inj (hc4.symm.trans hc5)
  obtain ⟨vm', X', st⟩ := X.thenCaughtThrough q (g := F0 m pc ls rest) rfl (Steps.refl _) (by rw [hT]; exact hcell) (by rw [hv]; rfl) (by obtain ⟨k9, h9, -⟩ := Vm.findClass_spec hcl; exact ⟨k9, h9⟩) pre x suf hsplit
    (fun z hz => by
      rcases hpass z hz with h | ⟨hz0, nm, hl1, hn1⟩
      · exact Or.inl h
      · obtain ⟨c6, hc6, hcl6⟩ := Cond.classLink_spec hown hl1 e.platform hpl
        obtain ⟨a8, b8, h1, h2, h3⟩ := hn1
        cases Option.some.inj (h1.symm.trans hcl)
        cases Option.some.inj (h2.symm.trans hc6)
        exact Or.inr ⟨hz0, _, hcl6, h3⟩) hx (Or.inr ⟨h0, c4, hcl5, hasg⟩)
  obtain ⟨t, a1, b1⟩ := kk (T.setVm vm') hT X'
  exact ⟨t, st.trans a1, b1⟩
end Rows
section Ends
variable {p : Program} {l : Launch} {e : Env} {R : Room} {s : State} {m : MethodId} {args : Array Value} {below : List Frame} {meth : Method} {c : Code} {H : Heap} {locs : List Loc} {cells slots : Nat} {Q : State → Prop}
variable {mc ms : Nat} {free : Addr → Prop} {A0 A1 : Nat → Prop} {H0 : Heap} {a : Array Value} {ls : Array Slot} {st0 rest : List Value}
variable {Qc : Array Value → State → Outcome → State → Prop} {XC : String → State → State → Prop}
/-- what a body that may throw owes at its end -/
def vx_MQ (below : List Frame) (Qc : Array Value → State → Outcome → State → Prop) (XC : String → State → State → Prop) (a : Array Value) (s : State) (mc ms : Nat) (free : Addr → Prop) : State → Prop := fun t =>
  ∃ o, t.status = .running ∧ Ended t below o ∧ vx_Q Qc XC mc ms free a s o t
theorem vx_ret {g : JFrame} {mc ms : Nat} (k : W p l e R s m args below meth c H locs cells slots (MQ below Qc args s mc ms free) g) : W p l e R s m args below meth c H locs cells slots (vx_MQ below Qc XC args s mc ms free) g := by
  intro T hT X
  obtain ⟨t, a1, o, b1, b2, b3, b4⟩ := k T hT X
  exact ⟨t, a1, o, b1, b2, Or.inl ⟨b3, b4⟩⟩
/-- not caught here: it goes on to the caller -/
theorem vx_widen {g : JFrame} {q : Addr} {k n : Nat} (h1 : cells ≤ k) (h2 : slots ≤ n) (kk : vx_W p l e R s m args below meth c H locs k n Q g q) : vx_W p l e R s m args below meth c H locs cells slots Q g q := fun T hT X => kk T hT (stand_widen X h1 h2)
theorem vx_out {pc : Nat} {E : String} {ce : Cell} {q : Addr} {mc ms : Nat} (hout : ∀ x ∈ c.exceptionTable.toList, covers x pc = false) (hlocks : meth.locks = false) (hcell : H[q]? = some ce) (hv : ce.vm = .none) (hcl : s.vm.findClass E = some ce.cls)
    (hx : ∀ t : State, t.heap = H → s.vm.Alike t.vm → XC E s t) (hf : ∀ z ∈ locs, free z.base) (hc : cells ≤ mc) (hs : slots ≤ ms) :
    vx_W p l e R s m args below meth c H locs cells slots (vx_MQ below Qc XC args s mc ms free) (F0 m pc ls rest) q := by
  intro T hT X
  obtain ⟨st1, hrun, hend, hW, hsm⟩ := X.leaveThrown q (g := F0 m pc ls rest) rfl rfl rfl hout hlocks
  have hcell9 : (T.setFrames (.throwing q :: below)).heap[q]? = some ce := by
    show T.heap[q]? = some ce
    rw [hT]; exact hcell
  exact ⟨_, st1, .threw q, hrun, hend, Or.inr ⟨q, rfl, E, ce, locs, hx _ hT hW.alike, hcell9, hv, hcl, hW, hsm.mono hc hs, hf⟩⟩
theorem vx_frame {U : State} {k n : Nat} (h : s.sameButNew ({ U with vm := s.vm } : State) locs k n) : s.heap.size ≤ U.heap.size ∧ ∀ q : Nat, q < s.heap.size → (∀ z ∈ locs, z.base ≠ q) → U.heap[q]? = s.heap[q]? := by
  obtain ⟨-, h2, -, -, -, h6⟩ := h
  refine ⟨h2, fun q hq hz => ?_⟩
  obtain ⟨c9, e1, e2, e3, e4⟩ := h6 q _ (Array.getElem?_eq_getElem hq)
  have hs : c9.slots = (s.heap[q]).slots := Array.ext_getElem? fun i => e4 i fun hm => hz _ hm rfl
  have h9 : c9 = s.heap[q] := by
    rw [hs] at e2
    exact e2
  have e5 : U.heap[q]? = some c9 := e1
  rw [e5, h9, Array.getElem?_eq_getElem hq]
/-- the words of a throw but the four that speak of the heap -/
def vx_no (w : Cond) : Bool := decide (w ≠ .isRef (.static Bundle.tN "UNASSIGNED_STACK" Bundle.steD)) && decide (w ≠ .isRef (.static Bundle.tN "SUPPRESSED_SENTINEL" Bundle.listD)) && decide (w ≠ .laysStatic Bundle.tN "UNASSIGNED_STACK" Bundle.steD) && decide (w ≠ .laysStatic Bundle.tN "SUPPRESSED_SENTINEL" Bundle.listD)
def vx_at0 (own : String) (ic : Nat) (X : String) (names : List String) : List Cond := (Bundle.ownAtoms0 own ic X names).filter vx_no
def vx_atS (own : String) (ic : Nat) (X : String) (names : List String) : List Cond := (Bundle.ownAtoms own ic X names).filter vx_no
/-- a word that the tables alone decide, or a good one -/
def vx_ot (w : Cond) : Bool := w.onTables || goodWord w
theorem vx_ot_at {args a' : Array Value} {s U : State} {w : Cond} (hW : s.WarmedH U.vm) (hvm : s.vm = U.vm) (hg : vx_ot w = true) (h : w.before args s = true) : w.before a' U = true := by
  simp only [vx_ot, Bool.or_eq_true] at hg
  rcases hg with hg | hg
  · exact va_tabs hg hvm h
  · exact word_at hW (good_of_word hg) h
/-- a list's words: the good ones out of the method's own list, the others by premises of their own -/
theorem vx_hat {args : Array Value} {s : State} {L B : List Cond} (h1 : ∀ w ∈ L.filter goodWord, w.before args s = true) (h2 : ∀ w ∈ L.filter (fun w => !goodWord w), w ∈ B) (h3 : ∀ w ∈ B, w.before args s = true) : ∀ w ∈ L, w.before args s = true := by
  intro w hw
  by_cases g : goodWord w = true
  · exact h1 w (List.mem_filter.mpr ⟨hw, g⟩)
  · refine h3 w (h2 w (List.mem_filter.mpr ⟨hw, ?_⟩))
    show (!goodWord w) = true
    cases hgw : goodWord w
    · rfl
    · exact absurd hgw g
theorem vx_c {args : Array Value} {s : State} {w : Cond} {B : List Cond} (h : w.before args s = true) (t : ∀ w ∈ B, w.before args s = true) : ∀ w' ∈ w :: B, w'.before args s = true := fun w' h' => (List.mem_cons.mp h').elim (fun e => by rw [e]; exact h) (t w')
theorem vx_n {args : Array Value} {s : State} : ∀ w ∈ ([] : List Cond), w.before args s = true := fun _ h => nomatch h
theorem vx_own {args : Array Value} {s : State} {L : List Cond} (h1 : ∀ w ∈ L.filter vx_no, w.before args s = true)
    (hU : (Cond.isRef (.static Bundle.tN "UNASSIGNED_STACK" Bundle.steD)).before args s = true) (hN : (Cond.isRef (.static Bundle.tN "SUPPRESSED_SENTINEL" Bundle.listD)).before args s = true)
    (lU : (Cond.laysStatic Bundle.tN "UNASSIGNED_STACK" Bundle.steD).before args s = true) (lN : (Cond.laysStatic Bundle.tN "SUPPRESSED_SENTINEL" Bundle.listD).before args s = true) : ∀ w ∈ L, w.before args s = true := by
  intro w hw
  by_cases e1 : w = .isRef (.static Bundle.tN "UNASSIGNED_STACK" Bundle.steD)
  · rw [e1]; exact hU
  · by_cases e2 : w = .isRef (.static Bundle.tN "SUPPRESSED_SENTINEL" Bundle.listD)
    · rw [e2]; exact hN
    · by_cases e3 : w = .laysStatic Bundle.tN "UNASSIGNED_STACK" Bundle.steD
      · rw [e3]; exact lU
      · by_cases e4 : w = .laysStatic Bundle.tN "SUPPRESSED_SENTINEL" Bundle.listD
        · rw [e4]; exact lN
        · exact h1 w (List.mem_filter.mpr ⟨hw, by unfold vx_no; rw [decide_eq_true e1, decide_eq_true e2, decide_eq_true e3, decide_eq_true e4]; rfl⟩)
/-- where a static field lies, its class's statics cell in H -/
def vx_L (C n d : String) (A : Nat → Prop) (U : State) (H : Heap) : Prop := ∃ (c : ClassId) (k : Class) (i : Nat) (f : Field) (a : Nat) (cell : Cell), U.vm.findClass C = some c ∧ U.fieldFound? C n d = some (c, k, i, f) ∧ f.isStatic = true ∧ k.statics = some a ∧ H[a]? = some cell ∧ cell.vm.isStatics = true ∧ cell.cls = c ∧ f.slot < cell.slots.size ∧ k.staticTypes[f.slot]? = some f.type ∧ ¬ A a
theorem vx_L.moved {C n d : String} {A : Nat → Prop} {u U : State} {H : Heap} (hvm : u.vm.Alike U.vm) (h : vx_L C n d A u H) : vx_L C n d A U H := by
  obtain ⟨c, k, i, f, a, cell, h1, h2, h3, h4, h5, h6, h7, h8, h9, h10⟩ := h
  obtain ⟨k', hi', he⟩ := State.fieldFound?_setVm hvm h2
  exact ⟨c, k', i, f, a, cell, by rw [hvm.findClass]; exact h1, hi', h3, by rw [he]; exact h4, h5, h6, h7, h8, by rw [he]; exact h9, h10⟩
theorem vx_L.kept {C n d : String} {A : Nat → Prop} {U : State} {H H1 : Heap} (h : vx_L C n d A U H) (hq : ∀ a : Nat, a < H.size → ¬ A a → H1[a]? = H[a]?) : vx_L C n d A U H1 := by
  obtain ⟨c, k, i, f, a, cell, h1, h2, h3, h4, h5, h6, h7, h8, h9, h10⟩ := h
  exact ⟨c, k, i, f, a, cell, h1, h2, h3, h4, by rw [hq a (Array.getElem?_eq_some_iff.mp h5).1 h10]; exact h5, h6, h7, h8, h9, h10⟩
theorem vx_L.narrow {C n d : String} {A B : Nat → Prop} {U : State} {H : Heap} (h : vx_L C n d A U H) (hAB : ∀ q, B q → A q) : vx_L C n d B U H := by
  obtain ⟨c, k, i, f, a, cell, h1, h2, h3, h4, h5, h6, h7, h8, h9, h10⟩ := h
  exact ⟨c, k, i, f, a, cell, h1, h2, h3, h4, h5, h6, h7, h8, h9, fun z => h10 (hAB _ z)⟩
theorem vx_L.word {C n d : String} {A : Nat → Prop} {s : State} {args : Array Value} (h : vx_L C n d A s s.heap) : (Cond.laysStatic C n d).before args s = true := by
  obtain ⟨c, k, i, f, a, cell, h1, h2, h3, h4, h5, h6, h7, h8, h9, -⟩ := h
  show (Cond.laysStatic C n d).holds args s none s [] = true
  exact Cond.laysStatic_of h1 h2 h3 h4 h5 h6 h7 h8 h9
/-- .. and what it holds: null or some reference -/
def vx_Zq (C n d : String) (A : Nat → Prop) (U : State) (H : Heap) : Prop := va_Zq C n d A U H ∧ vx_L C n d A U H
theorem vx_Zq.moved {C n d : String} {A : Nat → Prop} {u U : State} {H : Heap} (hvm : u.vm.Alike U.vm) (h : vx_Zq C n d A u H) : vx_Zq C n d A U H := ⟨va_Zq.moved hvm h.1, vx_L.moved hvm h.2⟩
theorem vx_Zq.kept {C n d : String} {A : Nat → Prop} {U : State} {H H1 : Heap} (h : vx_Zq C n d A U H) (hq : ∀ a : Nat, a < H.size → ¬ A a → H1[a]? = H[a]?) : vx_Zq C n d A U H1 := ⟨va_Zq.kept h.1 hq, vx_L.kept h.2 hq⟩
theorem vx_Zq.narrow {C n d : String} {A B : Nat → Prop} {U : State} {H : Heap} (h : vx_Zq C n d A U H) (hAB : ∀ q, B q → A q) : vx_Zq C n d B U H := ⟨va_Zq.narrow h.1 hAB, vx_L.narrow h.2 hAB⟩
theorem vx_Zqof {args : Array Value} {s : State} {C n d : String} {A : Nat → Prop} (hl : (Cond.laysStatic C n d).before args s = true) (hini : (Cond.initialized C).before args s = true) (h : (Cond.isRef (.static C n d)).before args s = true) (hA : ∀ a : Nat, a < s.heap.size → ¬ A a) : vx_Zq C n d A s s.heap := by
  refine ⟨va_Zqof hl hini h hA, ?_⟩
  obtain ⟨c, k, i, f, a, cell, h1, h2, h3, h4, h5, h6, h7, h8, h9⟩ := Cond.laysStatic_spec hl
  exact ⟨c, k, i, f, a, cell, h1, h2, h3, h4, h5, h6, h7, h8, h9, hA a (Array.getElem?_eq_some_iff.mp h5).1⟩
theorem vx_isRef {C n d : String} {v : Value} {A : Nat → Prop} {s : State} {args : Array Value} (h : va_Z C n d v A s s.heap) (hv : v.isRef = true) : (Cond.isRef (.static C n d)).before args s = true := by
  obtain ⟨cf, kf, fi, f, a, cell, h1, h2, h3, h4, h5, h6, h7, -⟩ := h
  have he : (Term.static C n d).eval args s none [] s = some v := by
    simp [Term.eval, State.fieldNamed?, h1, h2, h4, h5, h6, h7]
  simp only [Cond.before, Cond.holds, Cond.value, he]
  cases v <;> simp_all [Value.isRef]
theorem vx_isRefq {C n d : String} {A : Nat → Prop} {s : State} {args : Array Value} (h : va_Zq C n d A s s.heap) : (Cond.isRef (.static C n d)).before args s = true := by
  rcases h with h | ⟨t, h⟩
  · exact vx_isRef h rfl
  · exact vx_isRef h rfl
/-- the same frame, seen from here: as if the method were called anew in this heap -/
theorem vx_rebase {T : State} (X : Stand p l e R s m args below meth c T locs cells slots) {R' : Room} (hf : R'.frames ≤ R.frames) (hl : R'.locals ≤ R.locals) (hc : cells + R'.cells ≤ R.cells) (hs : slots + R'.slots ≤ R.slots) :
    Stand p l e R' ((T.setVm s.vm).setFrames (.invoking m args :: below)) m args below meth c T [] 0 0 := by
  have htop : (T.setVm s.vm).topJava?.isSome := X.here.top
  have hF : ((T.setVm s.vm).setFrames (.invoking m args :: below)).frames = .invoking m args :: below := State.frames_setFrames _ (State.cur_lt_of_top htop)
  obtain ⟨g₀, hg0⟩ := Option.isSome_iff_exists.mp htop
  obtain ⟨r, hr⟩ := State.topJava?_eq_some.mp hg0
  have hl9 : e.platform.stackLimits (T.setVm s.vm).me = e.platform.stackLimits s.me := X.limits
  have hb9 : (T.setVm s.vm).me.stackBytes = s.me.stackBytes := X.bytes
  refine ⟨X.admits, X.cas, X.clock, hF, ?_, X.hears, X.method, X.code, X.here, X.tail, X.warmed, ?_, ?_, ?_⟩
  · have h := X.room
    have hU : ((T.setVm s.vm).setFrames (.invoking m args :: below)).localsInUse = s.localsInUse := by
      rw [State.localsInUse_invoking hF (meth := meth) (c := c) X.method X.code, State.localsInUse_invoking X.frames X.method X.code]
    simp only [State.hasRoom, Bool.and_eq_true, decide_eq_true_eq] at h ⊢
    obtain ⟨⟨⟨⟨h1, h2, h3, h4, h5, h6⟩, h7⟩, h8⟩, h9⟩ := h
    rw [X.frames, List.length_cons] at h2 h3
    have q1 := X.heapSize
    have q2 := X.used
    simp only [hF, hU, List.length_cons, State.stackLimits_setFrames, State.stackBytes_setFrames, hl9, hb9]
    refine ⟨⟨⟨⟨by omega, by omega, by omega, by omega, by omega, h6⟩, ?_⟩, ?_⟩, X.book⟩
    · show T.heap.size + R'.cells ≤ e.platform.maxCells
      omega
    · show T.slotsUsed + R'.slots ≤ e.platform.maxSlots
      omega
  · rw [State.stackLimits_setFrames]; rfl
  · rw [State.stackBytes_setFrames]; rfl
  · refine ⟨?_, Nat.le_refl _, Nat.le_refl _, ?_, ?_, fun a c9 h9 => ⟨c9, h9, rfl, rfl, fun _ _ => rfl⟩⟩
    · obtain ⟨t, ht, -⟩ := State.frames_cons hr
      show T.setVm s.vm = { ((T.setVm s.vm).setFrames (.invoking m args :: below)).setFrames (T.setVm s.vm).frames with heap := T.heap, slotsUsed := T.slotsUsed }
      rw [State.setFrames_setFrames, State.setFrames_self ht]
      rfl
    · show T.slotsUsed = T.slotsUsed + ((T.heap.toList.drop T.heap.size).map (·.slots.size)).sum
      rw [List.drop_eq_nil_of_le (Nat.le_of_eq Array.length_toList)]
      rfl
    · show ((T.heap.toList.drop T.heap.size).map (·.slots.size)).sum ≤ 0
      rw [List.drop_eq_nil_of_le (Nat.le_of_eq Array.length_toList)]
      exact Nat.le_refl _
/-- 'throw new E()': new; dup; invokespecial; athrow -/
theorem vx_throw0 {cc : ByteArray} {pc : Nat} (hexec : p.tables.exec = Jvm.exec) (hb : c.code = cc) (hl : l.stackTraces = false) {own cls : String} {names : List String} {ik ic mc ms : Nat} {A : Nat → Prop}
    (hown : s.vm.findClass own = some m.cls) (hcls : Bundle.fit cls = true) (hnames : ∀ n ∈ names, Bundle.fit n = true)
    (hk : (Cond.classLink own ik cls).before args s = true) (hini : (Cond.initialized cls).before args s = true) (hat : ∀ w ∈ vx_at0 own ic cls names, w.before args s = true)
    (hgood : ∀ w ∈ Cond.classLink own ik cls :: Cond.initialized cls :: vx_at0 own ic cls names, vx_ot w = true)
    (hU : vx_Zq Bundle.tN "UNASSIGNED_STACK" Bundle.steD A s s.heap) (hN : vx_Zq Bundle.tN "SUPPRESSED_SENTINEL" Bundle.listD A s s.heap) (hS : va_S A s.heap H locs) (hsize : ls.size = c.maxLocals)
    (d0 : decode cc pc = .ok (.new ik, 3)) (d3 : decode cc (pc + 3) = .ok (.dup, 1)) (d4 : decode cc (pc + 4) = .ok (.invokespecial ic, 3)) (d7 : decode cc (pc + 7) = .ok (.athrow, 1))
    (hout : ∀ x ∈ c.exceptionTable.toList, covers x (pc + 7) = false)
    (hRframes : names.length + 3 < R.frames) (hRlocals : (rest.map fun v => v.category).sum + (13 * (names.length + 1) + 42) ≤ R.locals) (hRcells : cells + 1 ≤ R.cells) (hRslots : slots + 6 ≤ R.slots) (hlocks : meth.locks = false)
    (hx : ∀ t : State, s.vm.Alike t.vm → H.size ≤ t.heap.size → (∀ q : Nat, q < H.size → t.heap[q]? = H[q]?) → XC cls s t)
    (hf : ∀ z ∈ locs, free z.base) (hc : cells + 1 ≤ mc) (hs : slots + 6 ≤ ms) :
    W p l e R s m args below meth c H locs cells slots (vx_MQ below Qc XC args s mc ms free) (F0 m pc ls rest) := by
  intro T hT X
  have htr : e.platform.stackTraces = false := (show e.platform.stackTraces = l.stackTraces by rw [X.admits.platform]).trans hl
  have Y := vx_rebase X (R' := { frames := R.frames, locals := R.locals, cells := 1, slots := 6 }) (Nat.le_refl _) (Nat.le_refl _) hRcells hRslots
  obtain ⟨s', hA⟩ : ∃ z, z = (T.setVm s.vm).setFrames (.invoking m args :: below) := ⟨_, rfl⟩
  rw [← hA] at Y
  have hvm : s'.vm = s.vm := by rw [hA]; rfl
  have hhp : s'.heap = H := by rw [hA]; exact hT
  have hW0 : s.WarmedH s'.vm := by rw [hvm]; exact State.WarmedH.refl s
  have hat' : ∀ w ∈ vx_at0 own ic cls names, w.before args s' = true := fun w hw => vx_ot_at hW0 hvm.symm (hgood w (List.mem_cons_of_mem _ (List.mem_cons_of_mem _ hw))) (hat w hw)
  have hk' : (Cond.classLink own ik cls).before args s' = true := vx_ot_at hW0 hvm.symm (hgood _ List.mem_cons_self) hk
  have hini' : (Cond.initialized cls).before args s' = true := vx_ot_at hW0 hvm.symm (hgood _ (List.mem_cons_of_mem _ List.mem_cons_self)) hini
  have hU' : vx_Zq Bundle.tN "UNASSIGNED_STACK" Bundle.steD A s' s'.heap := by rw [hhp]; exact vx_Zq.moved hW0.alike (hU.kept hS.2.1)
  have hN' : vx_Zq Bundle.tN "SUPPRESSED_SENTINEL" Bundle.listD A s' s'.heap := by rw [hhp]; exact vx_Zq.moved hW0.alike (hN.kept hS.2.1)
  have h : ∀ w ∈ Bundle.ownAtoms0 own ic cls names, w.before args s' = true := vx_own hat' (vx_isRefq hU'.1) (vx_isRefq hN'.1) hU'.2.word hN'.2.word
  have hown' : s'.vm.findClass own = some m.cls := by rw [hvm]; exact hown
  have hins : (Cond.instantiable cls 6).before args s' = true := h _ (by simp [Bundle.ownAtoms0])
  obtain ⟨vm₁, cX, kX, hfX, hkX, -, -, X₁, st1⟩ := Y.newCold hexec (own := own) (C := cls) (index := ik) (n := 6) hown' hk' hins hini'
    (g := F0 m pc ls rest) rfl (by rw [hb]; exact d0) (Nat.le_refl _) (Nat.le_refl _)
  generalize hT1 : (T.setVm vm₁).pushCell { cls := cX, slots := kX.instanceTypes.map defaultValue, vm := .none } = T1 at X₁ st1
  have hcat : (Value.ref T.heap.size).category = 1 := rfl
  have hcellA : T1.heap[T.heap.size]? = some (freshCell cX kX) := by rw [← hT1]; exact State.heap_pushCell_size _ _
  have d3' : decode c.code (pc + 3) = .ok (.dup, 1) := by rw [hb]; exact d3
  obtain ⟨U, hsteps, hrun, hend, hW, hsame, ce, hce, hO⟩ := X₁.ctorThrow0 hexec htr (own := own) (cls := cls) (names := names) (ic := ic) hown' hcls hnames h (fun x hx => nomatch hx) hfX hkX hcellA (by rw [hhp, hT]; exact Nat.le_refl _)
    (g := { method := m, pc := pc + 4, locals := ls, stack := .ref T.heap.size :: .ref T.heap.size :: rest, locked := none }) rfl hsize rfl rfl (rest := rest) rfl
    (by rw [hb]; exact d4) (by rw [hb]; exact d7) hout hRframes (by simp only [List.map_cons, List.sum_cons, hcat]; omega) hlocks
  obtain ⟨f1, f2⟩ := vx_frame hsame
  rw [hhp] at f1 f2
  have hWs : s.WarmedH U.vm := State.WarmedH.trans hW0 hW
  have hcl : s.vm.findClass cls = some ce.cls := by
    have h9 := hO.cls
    rw [hvm] at h9
    exact h9
  have hall : s.sameButNew ({ U with vm := s.vm } : State) locs mc ms := by
    subst hA
    obtain ⟨e1, e2⟩ := hsame
    rw [State.setFrames_setFrames] at e1
    have h2 : (T.setVm s.vm).sameButNew ({ U with vm := s.vm } : State) [] (0 + 1) (0 + 6) := ⟨e1, e2⟩
    have h3 := X.same.trans h2
    rw [List.append_nil] at h3
    exact h3.mono hc hs
  refine ⟨U, ?_, .threw T.heap.size, hrun, hend, Or.inr ⟨T.heap.size, rfl, cls, ce, locs, hx U hWs.alike f1 (fun q hq => f2 q hq (fun z hz => nomatch hz)), hce, hO.vm, hcl, hWs, hall, hf⟩⟩
  refine st1 _ ?_
  show Steps p.tables e below (T1.setTop { method := m, pc := pc + 3, locals := ls, stack := .ref T.heap.size :: rest, locked := none }) _
  jvm_step X₁.here [X₁.here.top, hexec, d3', Value.category]
  exact hsteps
/-- 'throw new E("text")': new; dup; ldc; invokespecial; athrow -/
theorem vx_throwS {cc : ByteArray} {pc : Nat} (hexec : p.tables.exec = Jvm.exec) (hb : c.code = cc) (hl : l.stackTraces = false) {own cls text : String} {names : List String} {ik is ic mc ms sa : Nat} {A : Nat → Prop}
    (hown : s.vm.findClass own = some m.cls) (hcls : Bundle.fit cls = true) (hnames : ∀ n ∈ names, Bundle.fit n = true)
    (hk : (Cond.classLink own ik cls).before args s = true) (hini : (Cond.initialized cls).before args s = true) (hstr : vk_R own is text sa s) (hat : ∀ w ∈ vx_atS own ic cls names, w.before args s = true)
    (hgood : ∀ w ∈ Cond.classLink own ik cls :: Cond.initialized cls :: vx_atS own ic cls names, vx_ot w = true)
    (hU : vx_Zq Bundle.tN "UNASSIGNED_STACK" Bundle.steD A s s.heap) (hN : vx_Zq Bundle.tN "SUPPRESSED_SENTINEL" Bundle.listD A s s.heap) (hS : va_S A s.heap H locs) (hsize : ls.size = c.maxLocals)
    (d0 : decode cc pc = .ok (.new ik, 3)) (d3 : decode cc (pc + 3) = .ok (.dup, 1)) (d4 : decode cc (pc + 4) = .ok (.ldc is, 2)) (d6 : decode cc (pc + 6) = .ok (.invokespecial ic, 3)) (d9 : decode cc (pc + 9) = .ok (.athrow, 1))
    (hout : ∀ x ∈ c.exceptionTable.toList, covers x (pc + 9) = false)
    (hRframes : names.length + 3 < R.frames) (hRlocals : (rest.map fun v => v.category).sum + (13 * (names.length + 1) + 43) ≤ R.locals) (hRcells : cells + 1 ≤ R.cells) (hRslots : slots + 6 ≤ R.slots) (hlocks : meth.locks = false)
    (hx : ∀ t : State, s.vm.Alike t.vm → H.size ≤ t.heap.size → (∀ q : Nat, q < H.size → t.heap[q]? = H[q]?) → XC cls s t)
    (hf : ∀ z ∈ locs, free z.base) (hc : cells + 1 ≤ mc) (hs : slots + 6 ≤ ms) :
    W p l e R s m args below meth c H locs cells slots (vx_MQ below Qc XC args s mc ms free) (F0 m pc ls rest) := by
  intro T hT X
  have htr : e.platform.stackTraces = false := (show e.platform.stackTraces = l.stackTraces by rw [X.admits.platform]).trans hl
  have Y := vx_rebase X (R' := { frames := R.frames, locals := R.locals, cells := 1, slots := 6 }) (Nat.le_refl _) (Nat.le_refl _) hRcells hRslots
  obtain ⟨s', hA⟩ : ∃ z, z = (T.setVm s.vm).setFrames (.invoking m args :: below) := ⟨_, rfl⟩
  rw [← hA] at Y
  have hvm : s'.vm = s.vm := by rw [hA]; rfl
  have hhp : s'.heap = H := by rw [hA]; exact hT
  have hW0 : s.WarmedH s'.vm := by rw [hvm]; exact State.WarmedH.refl s
  have hat' : ∀ w ∈ vx_atS own ic cls names, w.before args s' = true := fun w hw => vx_ot_at hW0 hvm.symm (hgood w (List.mem_cons_of_mem _ (List.mem_cons_of_mem _ hw))) (hat w hw)
  have hk' : (Cond.classLink own ik cls).before args s' = true := vx_ot_at hW0 hvm.symm (hgood _ List.mem_cons_self) hk
  have hini' : (Cond.initialized cls).before args s' = true := vx_ot_at hW0 hvm.symm (hgood _ (List.mem_cons_of_mem _ List.mem_cons_self)) hini
  have hU' : vx_Zq Bundle.tN "UNASSIGNED_STACK" Bundle.steD A s' s'.heap := by rw [hhp]; exact vx_Zq.moved hW0.alike (hU.kept hS.2.1)
  have hN' : vx_Zq Bundle.tN "SUPPRESSED_SENTINEL" Bundle.listD A s' s'.heap := by rw [hhp]; exact vx_Zq.moved hW0.alike (hN.kept hS.2.1)
  have h : ∀ w ∈ Bundle.ownAtoms own ic cls names, w.before args s' = true := vx_own hat' (vx_isRefq hU'.1) (vx_isRefq hN'.1) hU'.2.word hN'.2.word
  have hown' : s'.vm.findClass own = some m.cls := by rw [hvm]; exact hown
  have hins : (Cond.instantiable cls 6).before args s' = true := h _ (by simp [Bundle.ownAtoms])
  obtain ⟨vm₁, cX, kX, hfX, hkX, -, -, X₁, st1⟩ := Y.newCold hexec (own := own) (C := cls) (index := ik) (n := 6) hown' hk' hins hini'
    (g := F0 m pc ls rest) rfl (by rw [hb]; exact d0) (Nat.le_refl _) (Nat.le_refl _)
  generalize hT1 : (T.setVm vm₁).pushCell { cls := cX, slots := kX.instanceTypes.map defaultValue, vm := .none } = T1 at X₁ st1
  have hcat : (Value.ref T.heap.size).category = 1 := rfl
  have hcellA : T1.heap[T.heap.size]? = some (freshCell cX kX) := by rw [← hT1]; exact State.heap_pushCell_size _ _
  have d3' : decode c.code (pc + 3) = .ok (.dup, 1) := by rw [hb]; exact d3
  have d4' : decode c.code (pc + 4) = .ok (.ldc is, 2) := by rw [hb]; exact d4
  have hstr' : vk_R own is text sa s' := vk_R.warm hW0 hstr
  obtain ⟨U, hsteps, hrun, hend, hW, hsame, ce, hce, hO⟩ := X₁.ctorThrowS hexec htr (own := own) (cls := cls) (names := names) (ic := ic) hown' hcls hnames h (fun x hx => nomatch hx) hfX hkX hcellA (by rw [hhp, hT]; exact Nat.le_refl _) (msg := .ref sa) rfl
    (g := { method := m, pc := pc + 6, locals := ls, stack := .ref sa :: .ref T.heap.size :: .ref T.heap.size :: rest, locked := none }) rfl hsize rfl rfl (rest := rest) rfl
    (by rw [hb]; exact d6) (by rw [hb]; exact d9) hout hRframes (by simp only [List.map_cons, List.sum_cons, hcat]; omega) hlocks
  obtain ⟨f1, f2⟩ := vx_frame hsame
  rw [hhp] at f1 f2
  have hWs : s.WarmedH U.vm := State.WarmedH.trans hW0 hW
  have hcl : s.vm.findClass cls = some ce.cls := by
    have h9 := hO.cls
    rw [hvm] at h9
    exact h9
  have hall : s.sameButNew ({ U with vm := s.vm } : State) locs mc ms := by
    subst hA
    obtain ⟨e1, e2⟩ := hsame
    rw [State.setFrames_setFrames] at e1
    have h2 : (T.setVm s.vm).sameButNew ({ U with vm := s.vm } : State) [] (0 + 1) (0 + 6) := ⟨e1, e2⟩
    have h3 := X.same.trans h2
    rw [List.append_nil] at h3
    exact h3.mono hc hs
  refine ⟨U, ?_, .threw T.heap.size, hrun, hend, Or.inr ⟨T.heap.size, rfl, cls, ce, locs, hx U hWs.alike f1 (fun q hq => f2 q hq (fun z hz => nomatch hz)), hce, hO.vm, hcl, hWs, hall, hf⟩⟩
  refine st1 _ ?_
  show Steps p.tables e below (T1.setTop { method := m, pc := pc + 3, locals := ls, stack := .ref T.heap.size :: rest, locked := none }) _
  jvm_step X₁.here [X₁.here.top, hexec, d3', Value.category]
  exact X₁.ldcString hexec (own := own) (text := text) (index := is) (a := sa) hown' hstr'.1 hstr'.2
    (g := { method := m, pc := pc + 4, locals := ls, stack := .ref T.heap.size :: .ref T.heap.size :: rest, locked := none }) rfl d4' _ hsteps
/-- 'throw new E("text")', the text by a wide index -/
theorem vx_throwSW {cc : ByteArray} {pc : Nat} (hexec : p.tables.exec = Jvm.exec) (hb : c.code = cc) (hl : l.stackTraces = false) {own cls text : String} {names : List String} {ik is ic mc ms sa : Nat} {A : Nat → Prop}
    (hown : s.vm.findClass own = some m.cls) (hcls : Bundle.fit cls = true) (hnames : ∀ n ∈ names, Bundle.fit n = true)
    (hk : (Cond.classLink own ik cls).before args s = true) (hini : (Cond.initialized cls).before args s = true) (hstr : vk_R own is text sa s) (hat : ∀ w ∈ vx_atS own ic cls names, w.before args s = true)
    (hgood : ∀ w ∈ Cond.classLink own ik cls :: Cond.initialized cls :: vx_atS own ic cls names, vx_ot w = true)
    (hU : vx_Zq Bundle.tN "UNASSIGNED_STACK" Bundle.steD A s s.heap) (hN : vx_Zq Bundle.tN "SUPPRESSED_SENTINEL" Bundle.listD A s s.heap) (hS : va_S A s.heap H locs) (hsize : ls.size = c.maxLocals)
    (d0 : decode cc pc = .ok (.new ik, 3)) (d3 : decode cc (pc + 3) = .ok (.dup, 1)) (d4 : decode cc (pc + 4) = .ok (.ldc_w is, 3)) (d7 : decode cc (pc + 7) = .ok (.invokespecial ic, 3)) (d10 : decode cc (pc + 10) = .ok (.athrow, 1))
    (hout : ∀ x ∈ c.exceptionTable.toList, covers x (pc + 10) = false)
    (hRframes : names.length + 3 < R.frames) (hRlocals : (rest.map fun v => v.category).sum + (13 * (names.length + 1) + 43) ≤ R.locals) (hRcells : cells + 1 ≤ R.cells) (hRslots : slots + 6 ≤ R.slots) (hlocks : meth.locks = false)
    (hx : ∀ t : State, s.vm.Alike t.vm → H.size ≤ t.heap.size → (∀ q : Nat, q < H.size → t.heap[q]? = H[q]?) → XC cls s t)
    (hf : ∀ z ∈ locs, free z.base) (hc : cells + 1 ≤ mc) (hs : slots + 6 ≤ ms) :
    W p l e R s m args below meth c H locs cells slots (vx_MQ below Qc XC args s mc ms free) (F0 m pc ls rest) := by
  intro T hT X
  have htr : e.platform.stackTraces = false := (show e.platform.stackTraces = l.stackTraces by rw [X.admits.platform]).trans hl
  have Y := vx_rebase X (R' := { frames := R.frames, locals := R.locals, cells := 1, slots := 6 }) (Nat.le_refl _) (Nat.le_refl _) hRcells hRslots
  obtain ⟨s', hA⟩ : ∃ z, z = (T.setVm s.vm).setFrames (.invoking m args :: below) := ⟨_, rfl⟩
  rw [← hA] at Y
  have hvm : s'.vm = s.vm := by rw [hA]; rfl
  have hhp : s'.heap = H := by rw [hA]; exact hT
  have hW0 : s.WarmedH s'.vm := by rw [hvm]; exact State.WarmedH.refl s
  have hat' : ∀ w ∈ vx_atS own ic cls names, w.before args s' = true := fun w hw => vx_ot_at hW0 hvm.symm (hgood w (List.mem_cons_of_mem _ (List.mem_cons_of_mem _ hw))) (hat w hw)
  have hk' : (Cond.classLink own ik cls).before args s' = true := vx_ot_at hW0 hvm.symm (hgood _ List.mem_cons_self) hk
  have hini' : (Cond.initialized cls).before args s' = true := vx_ot_at hW0 hvm.symm (hgood _ (List.mem_cons_of_mem _ List.mem_cons_self)) hini
  have hU' : vx_Zq Bundle.tN "UNASSIGNED_STACK" Bundle.steD A s' s'.heap := by rw [hhp]; exact vx_Zq.moved hW0.alike (hU.kept hS.2.1)
  have hN' : vx_Zq Bundle.tN "SUPPRESSED_SENTINEL" Bundle.listD A s' s'.heap := by rw [hhp]; exact vx_Zq.moved hW0.alike (hN.kept hS.2.1)
  have h : ∀ w ∈ Bundle.ownAtoms own ic cls names, w.before args s' = true := vx_own hat' (vx_isRefq hU'.1) (vx_isRefq hN'.1) hU'.2.word hN'.2.word
  have hown' : s'.vm.findClass own = some m.cls := by rw [hvm]; exact hown
  have hins : (Cond.instantiable cls 6).before args s' = true := h _ (by simp [Bundle.ownAtoms])
  obtain ⟨vm₁, cX, kX, hfX, hkX, -, -, X₁, st1⟩ := Y.newCold hexec (own := own) (C := cls) (index := ik) (n := 6) hown' hk' hins hini'
    (g := F0 m pc ls rest) rfl (by rw [hb]; exact d0) (Nat.le_refl _) (Nat.le_refl _)
  generalize hT1 : (T.setVm vm₁).pushCell { cls := cX, slots := kX.instanceTypes.map defaultValue, vm := .none } = T1 at X₁ st1
  have hcat : (Value.ref T.heap.size).category = 1 := rfl
  have hcellA : T1.heap[T.heap.size]? = some (freshCell cX kX) := by rw [← hT1]; exact State.heap_pushCell_size _ _
  have d3' : decode c.code (pc + 3) = .ok (.dup, 1) := by rw [hb]; exact d3
  have d4' : decode c.code (pc + 4) = .ok (.ldc_w is, 3) := by rw [hb]; exact d4
  have hstr' : vk_R own is text sa s' := vk_R.warm hW0 hstr
  obtain ⟨U, hsteps, hrun, hend, hW, hsame, ce, hce, hO⟩ := X₁.ctorThrowS hexec htr (own := own) (cls := cls) (names := names) (ic := ic) hown' hcls hnames h (fun x hx => nomatch hx) hfX hkX hcellA (by rw [hhp, hT]; exact Nat.le_refl _) (msg := .ref sa) rfl
    (g := { method := m, pc := pc + 7, locals := ls, stack := .ref sa :: .ref T.heap.size :: .ref T.heap.size :: rest, locked := none }) rfl hsize rfl rfl (rest := rest) rfl
    (by rw [hb]; exact d7) (by rw [hb]; exact d10) hout hRframes (by simp only [List.map_cons, List.sum_cons, hcat]; omega) hlocks
  obtain ⟨f1, f2⟩ := vx_frame hsame
  rw [hhp] at f1 f2
  have hWs : s.WarmedH U.vm := State.WarmedH.trans hW0 hW
  have hcl : s.vm.findClass cls = some ce.cls := by
    have h9 := hO.cls
    rw [hvm] at h9
    exact h9
  have hall : s.sameButNew ({ U with vm := s.vm } : State) locs mc ms := by
    subst hA
    obtain ⟨e1, e2⟩ := hsame
    rw [State.setFrames_setFrames] at e1
    have h2 : (T.setVm s.vm).sameButNew ({ U with vm := s.vm } : State) [] (0 + 1) (0 + 6) := ⟨e1, e2⟩
    have h3 := X.same.trans h2
    rw [List.append_nil] at h3
    exact h3.mono hc hs
  refine ⟨U, ?_, .threw T.heap.size, hrun, hend, Or.inr ⟨T.heap.size, rfl, cls, ce, locs, hx U hWs.alike f1 (fun q hq => f2 q hq (fun z hz => nomatch hz)), hce, hO.vm, hcl, hWs, hall, hf⟩⟩
  refine st1 _ ?_
  show Steps p.tables e below (T1.setTop { method := m, pc := pc + 3, locals := ls, stack := .ref T.heap.size :: rest, locked := none }) _
  jvm_step X₁.here [X₁.here.top, hexec, d3', Value.category]
  exact X₁.ldcStringW hexec (own := own) (text := text) (index := is) (a := sa) hown' hstr'.1 hstr'.2
    (g := { method := m, pc := pc + 4, locals := ls, stack := .ref T.heap.size :: .ref T.heap.size :: rest, locked := none }) rfl d4' _ hsteps
end Ends
section Bodies
variable {l : Launch}
theorem vx_ofW {y : MethodName} {ws ws' : List Cond} {rm : Room} {Pc : Array Value → State → Prop} {Qc : Array Value → State → Outcome → State → Prop} {XC : String → State → State → Prop} {mc ms : Nat} {free : Addr → Prop} {cc : ByteArray} {maxL : Nat} {ret : Option FieldType}
    (hy : plainName y.cls = true) (hw : ws = Cond.code y cc maxL ret :: ws')
    (body : ∀ p e s m args below meth c s₁, BodyLoose p l y (headSpec ws rm) cc maxL ret e s m args below meth c s₁ → c.maxLocals = maxL → (∀ x ∈ c.exceptionTable.toList, False) → Pc args s →
      W p l e (headSpec ws rm).room s m args below meth c s.heap [] 0 0 (vx_MQ below Qc XC args s mc ms free) (entryFrame m args maxL)) : vx_Met l y ws rm Pc Qc XC mc ms free := by
  refine MetFree.of_bodyS (code := cc) (maxLocals := maxL) (ret := ret) hy ?_ ?_
  · intro args s m h hn
    obtain ⟨meth, c, h1, h2, h3, h4, h5, h6, -, -⟩ := Cond.code_spec hn (atoms_spec (ws := ws) h _ (by rw [hw]; exact List.mem_cons_self))
    exact ⟨meth, c, h1, h2, h3, h4, h5, h6⟩
  · intro p e s m args below meth c s₁ B hml hP _
    have hh0 : s₁.heap = s.heap := by rw [B.state]; rfl
    have ht : ∀ x ∈ c.exceptionTable.toList, False := by
      obtain ⟨meth9, c9, h1, h2, -, -, -, -, h7, -⟩ := Cond.code_spec B.named (atoms_spec (ws := ws) B.pre _ (by rw [hw]; exact List.mem_cons_self))
      cases Option.some.inj (h1.symm.trans B.method)
      cases Option.some.inj (h2.symm.trans (Stand.of_body B).code)
      intro x hx
      rw [Array.isEmpty_iff.mp h7] at hx
      cases hx
    obtain ⟨t, a1, o, b1, b2, b3⟩ := body p e s m args below meth c s₁ B hml ht hP s₁ hh0 (Stand.of_body B)
    exact ⟨t, o, a1, b1, b2, b3⟩
/-- the table of a body with handlers -/
theorem vx_table {p : Program} {x y : MethodName} {S : Spec} {cc bytes : ByteArray} {maxL maxL' : Nat} {ret ret' : Option FieldType} {e : Env} {s s₁ : State} {m : MethodId} {args : Array Value} {below : List Frame} {meth : Method} {c : Code} {hh : List (Nat × Nat × Nat × Nat)}
    (B : BodyLoose p l y S cc maxL ret e s m args below meth c s₁) (h : (Cond.codeWith y bytes maxL' ret' hh).before args s = true) : c.exceptionTable.toList = tableOf hh := by
  obtain ⟨m9, meth9, c9, hn9, h1, h2, -, -, h6, -⟩ := Cond.codeWith_spec h
  cases Option.some.inj (hn9.symm.trans B.named)
  cases Option.some.inj (h1.symm.trans B.method)
  cases Option.some.inj (h2.symm.trans (Stand.of_body B).code)
  rw [← h6, table_eq]
end Bodies
end VXA
/-! ===== END ===== -/
/-! ===== BEGIN a static call of a method with an exception table ===== -/
section VXS
variable {p : Program} {l : Launch} {e : Env} {R : Room} {s : State} {m : MethodId} {args : Array Value} {below : List Frame} {meth : Method} {c : Code} {T : State} {H : Heap} {locs : List Loc} {cells slots : Nat}
abbrev vx_CSW (R : Room) (s : State) (args : Array Value) (own : String) (index : Nat) (y : MethodName) (bytes : ByteArray) (maxL : Nat) (ret : Option FieldType) (hh : List (Nat × Nat × Nat × Nat)) (ws : List Cond) (rm : Room) (mc ms n : Nat) : Prop :=
  (rm.cells = mc ∧ rm.slots = ms ∧ rm.frames + 1 ≤ R.frames ∧ 8 + (maxL + 11) + rm.locals ≤ R.locals ∧ (∀ w ∈ ws, ∀ (a' : Array Value) (U : State), s.WarmedH U.vm → w.before a' U = true) ∧ Cond.codeWith y bytes maxL ret hh ∈ ws) ∧
  (Cond.codeWith y bytes maxL ret hh).before args s = true ∧ (Cond.initialized y.cls).before args s = true ∧ (y.cls ≠ "java/lang/invoke/MethodHandle" ∧ y.cls ≠ "java/lang/invoke/VarHandle") ∧
  (∀ sig, parseMethodDescriptor y.desc = some sig → n = sig.parameters.length) ∧ (Cond.methodLink own index y).before args s = true ∧ (Cond.static y).before args s = true
theorem vx_cwSW {own : String} {index maxL mc ms : Nat} {y : MethodName} {bytes : ByteArray} {ret : Option FieldType} {hh : List (Nat × Nat × Nat × Nat)} {Ts ws ws' : List Cond} {rm : Room} (n : Nat) (ht : ∀ w ∈ Ts, w.before args s = true) (hT : GoodIn Ts (va_wsS own index y ws)) (hw : ws = Cond.codeWith y bytes maxL ret hh :: ws') (hrc : rm.cells = mc) (hrs : rm.slots = ms)
    (hd : y.cls ≠ "java/lang/invoke/MethodHandle" ∧ y.cls ≠ "java/lang/invoke/VarHandle" ∧ (parseMethodDescriptor y.desc).map (fun d => d.parameters.length) = some n) (hR : rm.frames + 1 ≤ R.frames ∧ 8 + (maxL + 11) + rm.locals ≤ R.locals) :
    vx_CSW R s args own index y bytes maxL ret hh ws rm mc ms n := by
  have ok : ∀ w ∈ va_wsS own index y ws, w.before args s = true := fun w h => ht w (hT w h).1
  have hG : GoodIn Ts ws := fun w h => hT w (by unfold va_wsS; exact List.mem_append_right _ h)
  have hc : Cond.codeWith y bytes maxL ret hh ∈ ws := by rw [hw]; exact List.mem_cons_self
  refine ⟨⟨hrc, hrs, hR.1, hR.2, pay_in ht hG, hc⟩, ht _ (hG _ hc).1, ok _ (by simp [va_wsS]), ⟨hd.1, hd.2.1⟩, fun sig h => ?_, ok _ (by simp [va_wsS]), ok _ (by simp [va_wsS])⟩
  have h2 := hd.2.2
  rw [h] at h2
  exact (Option.some.inj h2).symm
theorem vx_callSW (X : Stand p l e R s m args below meth c T locs cells slots) (hexec : p.tables.exec = Jvm.exec) {own : String} {index : Nat} {y : MethodName} {bytes : ByteArray} {maxL : Nat} {ret : Option FieldType} {hh : List (Nat × Nat × Nat × Nat)}
    (hown : s.vm.findClass own = some m.cls) (hlink : (Cond.methodLink own index y).before args s = true) (hstat : (Cond.static y).before args s = true) (hinit : (Cond.initialized y.cls).before args s = true)
    (hcode : (Cond.codeWith y bytes maxL ret hh).before args s = true) (hy : y.cls ≠ "java/lang/invoke/MethodHandle" ∧ y.cls ≠ "java/lang/invoke/VarHandle")
    {W9 : Nat} {Pre : Pt → Array Value → Prop} {Post : Pt → Array Value → Option Value → Pt → Prop} (hK : Back l R p e below s args y 3 W9 Pre Post)
    {g : JFrame} (hg : g.method = m) (hsize : g.locals.size = c.maxLocals) {argsL rest : List Value} (hlen : ∀ sig, parseMethodDescriptor y.desc = some sig → argsL.length = sig.parameters.length)
    (hstack : g.stack = argsL.reverse ++ rest) (hW : 2 * g.monitorRoom + (rest.map fun v => v.category).sum ≤ W9) (hdg : decode c.code g.pc = .ok (.invokestatic index, 3))
    (hpre : ∀ vm₁, s.WarmedH vm₁ → Pre ⟨T.setVm vm₁, locs, cells, slots⟩ argsL.toArray) :
    ∃ (v : Option Value) (vm₁ : Vm) (B : Pt), s.WarmedH vm₁ ∧ Stand p l e R s m args below meth c B.U B.locs B.cells B.slots ∧ Post ⟨T.setVm vm₁, locs, cells, slots⟩ argsL.toArray v B ∧
      ∀ target, Steps p.tables e below (B.U.setTop { g with pc := g.pc + 3, stack := v.toList ++ rest }) target → Steps p.tables e below (T.setTop g) target := by
  obtain ⟨mk, methM, cM, hnamed, hmethM, -, -, -, -, -, -, hsigM⟩ := Cond.codeWith_spec hcode
  have hstatic : methM.isStatic = true := Cond.static_spec hnamed hmethM hstat
  obtain ⟨kP, hkP, -⟩ := className_of_methodNamed hnamed
  have hinitP : kP.init = .initialized := Cond.initialized_spec (findClass_of_methodNamed hnamed) hkP hinit
  obtain ⟨vm₁, X₁, hstep₁⟩ := X.invokestatic hexec hown hlink hnamed hmethM hstatic hkP hinitP hy (g := g) hg (argsL := argsL) (rest := rest) (hlen _ hsigM) hstack hdg
  obtain ⟨v, B, X', hpost, hsteps⟩ := hK m meth c ⟨T.setVm vm₁, locs, cells, slots⟩ { g with stack := rest } (.invokestatic index) mk argsL.toArray X₁ hg hsize hdg hW (X₁.named hnamed) (hpre vm₁ X₁.warmed)
  exact ⟨v, vm₁, B, X₁.warmed, X', hpost, fun target h => hstep₁ _ fun acts => by rw [doInvoke_state]; exact hsteps.trans h⟩
theorem vx_runSW {y : MethodName} {bytes cc : ByteArray} {maxL nL mc ms n index : Nat} {ret : Option FieldType} {hh : List (Nat × Nat × Nat × Nat)} {ws : List Cond} {rm : Room} {Pc : Array Value → State → Prop} {Qc : Array Value → State → Outcome → State → Prop} {free : Addr → Prop} {Ts : List Cond} {own : String} {As rest : List Value} {g : JFrame}
    (S : CallFix p m c cc nL s args Ts own) (hM : Met l y ws rm Pc Qc mc ms free) (cw : vx_CSW R s args own index y bytes maxL ret hh ws rm mc ms n) (hp : PreS s H Pc As)
    (hg : g.method = m) (hn : As.length = n) (hsize : g.locals.size = nL) (hstack : g.stack = As.reverse ++ rest) (hW : 2 * g.monitorRoom + (rest.map fun v => v.category).sum ≤ 8) (hdg : decode cc g.pc = .ok (.invokestatic index, 3)) (hf : cells + mc ≤ R.cells ∧ slots + ms ≤ R.slots) :
    va_Run p l e R s m args below meth c H locs cells slots mc ms g rest (Qc As.toArray) (free) := by
  obtain ⟨⟨hrc, hrs, hfr, hlo, hws, hcw⟩, hcode, hini, hy, hlen, hl, hstt⟩ := cw
  have hK : Back l R p e below s args y 3 8 (PreOf R mc ms Pc) (PostOf Qc mc ms free) := va_backW (hh := hh) (bytes := bytes) (maxL := maxL) (ret := ret) hM hp.1 hrc hrs hfr hlo hws hcw (fun a' U hW => word_at hW (Or.inl (by first | rfl | simp [Cond.onTables, Cond.keeps, Cond.steady])) hini)
  obtain ⟨hx, hb, hml, ho, -⟩ := S
  intro T hT X
  obtain ⟨v, vm₁, ⟨U', l2, c2, s2⟩, hW₁, X', ⟨g', mk, t, L, e1, e2, hq, h1, hL, h2, h3⟩, st⟩ := vx_callSW X hx (hh := hh) (bytes := bytes) (maxL := maxL) (ret := ret) ho hl hstt hini hcode hy hK hg (hsize.trans hml.symm) (argsL := As) (rest := rest) (fun sig h => hn.trans (hlen sig h)) hstack hW (by rw [hb]; exact hdg)
    (fun vm₁ hW₁ => ⟨hf.1, hf.2, hp.2 (T.setVm vm₁) hT hW₁⟩)
  dsimp only [Pt.U, Pt.locs, Pt.cells, Pt.slots] at X' e1 e2 h1 h2 h3 st
  subst h1; subst h2; subst h3
  exact ⟨v, (T.setVm vm₁).calling g' mk As.toArray, t, U', L, hT, X', hL, e1, e2, hq, st⟩
/-- not caught here, past rows that name other classes: it goes on to the caller -/
theorem vx_outP {p : Program} {l : Launch} {e : Env} {R : Room} {s : State} {m : MethodId} {args : Array Value} {below : List Frame} {meth : Method} {c : Code} {H : Heap} {locs : List Loc} {cells slots : Nat} {free : Addr → Prop} {ls : Array Slot} {rest : List Value} {Qc : Array Value → State → Outcome → State → Prop} {XC : String → State → State → Prop}
    {pc : Nat} {own E : String} {ce : Cell} {q : Addr} {mc ms : Nat} (hown : s.vm.findClass own = some m.cls) (hlocks : meth.locks = false)
    (hpass : ∀ z ∈ c.exceptionTable.toList, covers z pc = false ∨ (z.catchType ≠ 0 ∧ ∃ nm : String, (Cond.classLink own z.catchType nm).before args s = true ∧ va_Nc E nm s)) (hcell : H[q]? = some ce) (hv : ce.vm = .none) (hcl : s.vm.findClass E = some ce.cls)
    (hx : ∀ t : State, t.heap = H → s.vm.Alike t.vm → XC E s t) (hf : ∀ z ∈ locs, free z.base) (hc : cells ≤ mc) (hs : slots ≤ ms) :
    vx_W p l e R s m args below meth c H locs cells slots (vx_MQ below Qc XC args s mc ms free) (F0 m pc ls rest) q := by
  intro T hT X
  have hpl : e.platform.magicAccessors = ({} : Platform).magicAccessors := by rw [X.admits.platform]
  obtain ⟨vm', hW', X', st⟩ := X.outThrough hlocks q (g := F0 m pc ls rest) rfl rfl rfl (cell := ce) (by rw [hT]; exact hcell) (by rw [hv]; rfl)
    (by obtain ⟨k9, h9, -⟩ := Vm.findClass_spec hcl; exact ⟨k9, h9⟩) (fun z hz => by
      rcases hpass z hz with h | ⟨hz0, nm, hl1, hn1⟩
      · exact Or.inl h
      · obtain ⟨c6, hc6, hcl6⟩ := Cond.classLink_spec hown hl1 e.platform hpl
        obtain ⟨a8, b8, h1, h2, h3⟩ := hn1
        cases Option.some.inj (h1.symm.trans hcl)
        cases Option.some.inj (h2.symm.trans hc6)
        exact Or.inr ⟨hz0, _, hcl6, h3⟩)
  obtain ⟨g₀, hfr⟩ := X'.frames_eq
  have hcell9 : ((T.setVm vm').setFrames (.throwing q :: below)).heap[q]? = some ce := by
    show T.heap[q]? = some ce
    rw [hT]; exact hcell
  have hend : Ended ((T.setVm vm').setFrames (.throwing q :: below)) below (.threw q) := State.frames_setFrames _ (State.cur_lt_of_frames hfr)
  refine ⟨(T.setVm vm').setFrames (.throwing q :: below), ?_, .threw q, X'.here.running, hend, Or.inr ⟨q, rfl, E, ce, locs, hx _ hT (X'.ends _).1.alike, hcell9, hv, hcl, (X'.ends _).1, (X'.ends _).2.mono hc hs, hf⟩⟩
  rw [X.pushThrowing_eq]
  exact st
/-- a thing of a world lies in the heap -/
theorem vx_lt {D : va_G} {cl : List vw_C} {ws : va_W} {H1 : Heap} (h : va_P D cl ws H1) {k : Nat} {q : Nat × va_E} (hk : ws[k]? = some q) : q.1 < H1.size := (h k q hk).lt
end VXS
/-! ===== END ===== -/
/-! ===== BEGIN methods with a table of their own: called by a name, returning or throwing ===== -/
section VXH
/-! vx_backW, vx_callVX, vx_callSX, vx_callVW, vx_runVW, vx_runVX, vx_runSX, vx_ofWH follow the same proofs as their sisters above (Free/Laws.lean, Shelf42/LK1.lean); vx_outP calls Shelf42/NT130.lean (outThrough). -/
section
variable {l : Launch} {R : Room} {p : Program} {e : Env} {below : List Frame} {s : State} {sargs : Array Value} {y : MethodName} {len W9 : Nat}
theorem vx_backW {ws : List Cond} {rm : Room} {Pc : Array Value → State → Prop} {Qc : Array Value → State → Outcome → State → Prop} {XC : String → State → State → Prop} {mc ms : Nat} {free : Addr → Prop} {bytes : ByteArray} {maxL : Nat} {ret : Option FieldType} {hh : List (Nat × Nat × Nat × Nat)}
    (hM : vx_Met l y ws rm Pc Qc XC mc ms free) (hblind : FrameBlind Pc) (hrc : rm.cells = mc) (hrs : rm.slots = ms)
    (hframes : rm.frames + 1 ≤ R.frames) (hlocals : W9 + (maxL + 11) + rm.locals ≤ R.locals)
    (hws : ∀ w ∈ ws, ∀ a' U, s.WarmedH U.vm → w.before a' U = true) (hcode : Cond.codeWith y bytes maxL ret hh ∈ ws) (hinit : ∀ a' U, s.WarmedH U.vm → (Cond.initialized y.cls).before a' U = true) :
    vx_Back l R p e below s sargs y len W9 (PreOf R mc ms Pc) (PostOf Qc mc ms free) (vx_Post XC mc ms free) := by
  intro m meth c A g ig mk a X hg hsize hdg hW hn hp
  have h1 : (headSpec ws rm).pre.before a A.U = true := atoms_intro fun w hw => hws w hw _ _ X.warmed
  have h2 : (Cond.codeWith y bytes maxL ret hh).before a A.U = true := hws _ hcode _ _ X.warmed
  have h3 : (Cond.initialized y.cls).before a A.U = true := hinit _ _ X.warmed
  have h4 : A.cells + (headSpec ws rm).room.cells ≤ R.cells := by rw [show (headSpec ws rm).room.cells = mc from hrc]; exact hp.1
  have h5 : A.slots + (headSpec ws rm).room.slots ≤ R.slots := by rw [show (headSpec ws rm).room.slots = ms from hrs]; exact hp.2.1
  have hPc : Pc a (A.U.calling g mk a) := hblind _ _ _ _ hp.2.2
  obtain ⟨U, Ls, c0, s0⟩ := A
  dsimp only [Pt.U, Pt.locs, Pt.cells, Pt.slots] at h1 h2 h3 h4 h5 X hn hPc ⊢
  obtain ⟨m9, methY, cY, hn9, hmY, hcY, -, hlY, -⟩ := Cond.codeWith_spec h2
  cases Option.some.inj (hn9.symm.trans hn)
  obtain ⟨kY, hkY, -⟩ := className_of_methodNamed hn
  have hinitY : kY.init = .initialized := Cond.initialized_spec (findClass_of_methodNamed hn) hkY h3
  have h : At U g.method c below := by rw [hg]; exact X.here
  have hlocals9 : W9 + (maxL + 11) + (headSpec ws rm).room.locals ≤ R.locals := hlocals
  have happ : (headSpec ws rm).appliesLoose y e.platform (U.calling g mk a) = true :=
    Spec.appliesLoose_calling (g := g) h hdg hn hkY hinitY
      (X.room_calling (g := g) (R' := (headSpec ws rm).room) hsize hmY hcY hframes (by rw [hlY]; omega) h4 h5) h1
  obtain ⟨mid, hmid⟩ := h.above
  have hfr : (U.setTop g).frames = (.java g :: mid) ++ below := by rw [State.frames_setTop' g h.top, hmid]; rfl
  obtain ⟨o, s₂, hsteps, -, hend, hq⟩ := Steps.callFree hM p X.admits X.cas X.clock (acts := []) hfr happ hPc trivial
  have hq' : vx_Q Qc XC mc ms free a (U.calling g mk a) o s₂ := hq
  rw [State.frames_setTop' g h.top] at hend
  obtain ⟨g₀, hg0⟩ := Option.isSome_iff_exists.mp h.top
  obtain ⟨r, hr⟩ := State.topJava?_eq_some.mp hg0
  have hr' : (({ U with heap := s₂.heap, slotsUsed := s₂.slotsUsed } : State).setVm s₂.vm).frames = .java g₀ :: r := hr
  rcases hq' with ⟨hqc, L, hfe, hL⟩ | ⟨q, rfl, E, ce, L, hx, hce, hcv, hcl, hW₂, hsm, hL⟩
  · obtain ⟨⟨v, rfl⟩, hW₂, e2, q2, q3, q4, q5, q6⟩ := id hfe
    have e3 : s₂ = ({ (U.calling g mk a).setFrames s₂.frames with heap := s₂.heap, slotsUsed := s₂.slotsUsed } : State).setVm s₂.vm := by
      have : s₂ = ({ s₂ with vm := (U.calling g mk a).vm } : State).setVm s₂.vm := rfl
      rw [e2] at this
      exact this
    obtain ⟨c₂, i₂, len₂, hc₂, hd₂, hf₂⟩ := hend
    have hW' : U.WarmedH s₂.vm := hW₂
    have hcc : c₂ = c := by
      have h1 : s₂.code? g.method = U.code? g.method := by
        rw [State.code?_eq, State.code?_eq, hW'.alike.method?]
      exact Option.some.inj (hc₂.symm.trans (h1.trans h.code))
    subst hcc
    have hlen : len₂ = len := by rw [hdg] at hd₂; cases hd₂; rfl
    subst hlen
    have hs₂ : s₂ = (({ U with heap := s₂.heap, slotsUsed := s₂.slotsUsed } : State).setVm s₂.vm).setTop { g with pc := g.pc + len₂, stack := v.toList ++ g.stack } := by
      refine e3.trans ?_
      rw [hf₂, State.calling_eq h.top, State.setFrames_setFrames, State.setTop_of_frames _ hr', hr]
      rfl
    have hsame : U.sameButNew ({ U with heap := s₂.heap, slotsUsed := s₂.slotsUsed } : State) L mc ms := by
      refine ⟨?_, q2, q3, q4, q5, q6⟩
      obtain ⟨t, ht, -⟩ := State.frames_cons hr
      show ({ U with heap := s₂.heap, slotsUsed := s₂.slotsUsed } : State) = { U.setFrames U.frames with heap := s₂.heap, slotsUsed := s₂.slotsUsed }
      rw [State.setFrames_self ht]
    subst hg
    refine Or.inl ⟨v, ⟨(({ U with heap := s₂.heap, slotsUsed := s₂.slotsUsed } : State).setVm s₂.vm), Ls ++ L, c0 + mc, s0 + ms⟩,
      ⟨X.admits, X.cas, X.clock, X.frames, X.room, X.hears, X.method, X.code, (X.here.setHeapUsed s₂.heap s₂.slotsUsed).setVm hW'.alike, X.tail, State.WarmedH.trans X.warmed hW', X.limits, X.bytes, X.same.trans (hsame.setVm s.vm)⟩,
      ⟨g, mk, s₂, L, rfl, rfl, hqc, rfl, hL, rfl, rfl⟩, ?_⟩
    show Steps p.tables e below _ ((({ U with heap := s₂.heap, slotsUsed := s₂.slotsUsed } : State).setVm s₂.vm).setTop { g with pc := g.pc + len₂, stack := v.toList ++ g.stack })
    rw [← hs₂]
    exact hsteps
  · obtain ⟨e2, q2, q3, q4, q5, q6⟩ := id hsm
    have e3 : s₂ = ({ (U.calling g mk a).setFrames s₂.frames with heap := s₂.heap, slotsUsed := s₂.slotsUsed } : State).setVm s₂.vm := by
      have : s₂ = ({ s₂ with vm := (U.calling g mk a).vm } : State).setVm s₂.vm := rfl
      rw [e2] at this
      exact this
    have hf₂ : s₂.frames = .throwing q :: .java g :: U.frames.tail := hend
    have hW' : U.WarmedH s₂.vm := hW₂
    have hs₂ : s₂ = ((({ U with heap := s₂.heap, slotsUsed := s₂.slotsUsed } : State).setVm s₂.vm).setTop g).pushFrame (.throwing q) := by
      refine e3.trans ?_
      rw [hf₂, State.calling_eq h.top, State.setFrames_setFrames, State.pushFrame, State.frames_setTop _ hr', State.setTop_of_frames _ hr', State.setFrames_setFrames, hr]
      rfl
    have hsame : U.sameButNew ({ U with heap := s₂.heap, slotsUsed := s₂.slotsUsed } : State) L mc ms := by
      refine ⟨?_, q2, q3, q4, q5, q6⟩
      obtain ⟨t, ht, -⟩ := State.frames_cons hr
      show ({ U with heap := s₂.heap, slotsUsed := s₂.slotsUsed } : State) = { U.setFrames U.frames with heap := s₂.heap, slotsUsed := s₂.slotsUsed }
      rw [State.setFrames_self ht]
    subst hg
    refine Or.inr ⟨q, ⟨(({ U with heap := s₂.heap, slotsUsed := s₂.slotsUsed } : State).setVm s₂.vm), Ls ++ L, c0 + mc, s0 + ms⟩,
      ⟨X.admits, X.cas, X.clock, X.frames, X.room, X.hears, X.method, X.code, (X.here.setHeapUsed s₂.heap s₂.slotsUsed).setVm hW'.alike, X.tail, State.WarmedH.trans X.warmed hW', X.limits, X.bytes, X.same.trans (hsame.setVm s.vm)⟩,
      ⟨g, mk, s₂, L, E, ce, rfl, rfl, hx, hce, hcv, hcl, rfl, hL, rfl, rfl⟩, ?_⟩
    show Steps p.tables e below _ (((({ U with heap := s₂.heap, slotsUsed := s₂.slotsUsed } : State).setVm s₂.vm).setTop g).pushFrame (.throwing q))
    rw [← hs₂]
    exact hsteps
end
variable {p : Program} {l : Launch} {e : Env} {R : Room} {s : State} {m : MethodId} {args : Array Value} {below : List Frame} {meth : Method} {c : Code} {T : State} {H : Heap} {locs : List Loc} {cells slots : Nat}
theorem vx_callVX (X : Stand p l e R s m args below meth c T locs cells slots) (hexec : p.tables.exec = Jvm.exec) {own C : String} {index : Nat} {y : MethodName} {bytes : ByteArray} {maxL : Nat} {ret : Option FieldType} {hh : List (Nat × Nat × Nat × Nat)}
    (hown : s.vm.findClass own = some m.cls) (hlink : (Cond.methodLink own index y).before args s = true) (hinst : (Cond.instanceMethod y).before args s = true) (hsel : (Cond.selects C y y).before args s = true)
    (hcode : (Cond.codeWith y bytes maxL ret hh).before args s = true) (hy : y.cls ≠ "java/lang/invoke/MethodHandle" ∧ y.cls ≠ "java/lang/invoke/VarHandle")
    {W9 : Nat} {Pre : Pt → Array Value → Prop} {Post : Pt → Array Value → Option Value → Pt → Prop} {PostX : Pt → Array Value → Addr → Pt → Prop} (hK : vx_Back l R p e below s args y 3 W9 Pre Post PostX)
    {b : Addr} {cellB : Cell} (hcell : T.heap[b]? = some cellB) (hobj : cellB.vm.isStatics = false) (hcls : s.vm.findClass C = some cellB.cls)
    {g : JFrame} (hg : g.method = m) (hsize : g.locals.size = c.maxLocals) {argsL rest : List Value} (hlen : ∀ sig, parseMethodDescriptor y.desc = some sig → argsL.length = sig.parameters.length)
    (hstack : g.stack = argsL.reverse ++ .ref b :: rest) (hW : 2 * g.monitorRoom + (rest.map fun v => v.category).sum ≤ W9) (hdg : decode c.code g.pc = .ok (.invokevirtual index, 3))
    (hpre : ∀ vm₁, s.WarmedH vm₁ → Pre ⟨T.setVm vm₁, locs, cells, slots⟩ (Value.ref b :: argsL).toArray) :
    (∃ (v : Option Value) (vm₁ : Vm) (B : Pt), s.WarmedH vm₁ ∧ Stand p l e R s m args below meth c B.U B.locs B.cells B.slots ∧ Post ⟨T.setVm vm₁, locs, cells, slots⟩ (Value.ref b :: argsL).toArray v B ∧
      ∀ target, Steps p.tables e below (B.U.setTop { g with pc := g.pc + 3, stack := v.toList ++ rest }) target → Steps p.tables e below (T.setTop g) target) ∨
    (∃ (q : Addr) (vm₁ : Vm) (B : Pt), s.WarmedH vm₁ ∧ Stand p l e R s m args below meth c B.U B.locs B.cells B.slots ∧ PostX ⟨T.setVm vm₁, locs, cells, slots⟩ (Value.ref b :: argsL).toArray q B ∧
      Steps p.tables e below (T.setTop g) ((B.U.setTop { g with stack := rest }).pushFrame (.throwing q))) := by
  obtain ⟨mk, methM, hnamed, hmethM, hstM, habM⟩ := Cond.instanceMethod_spec hinst
  obtain ⟨m8, methM', cM, hn8, hmethM', -, -, -, -, -, -, hsigM⟩ := Cond.codeWith_spec hcode
  cases Option.some.inj (hn8.symm.trans hnamed)
  cases hmethM.symm.trans hmethM'
  obtain ⟨c2, r2, m2, q1, q2, q3, q4, kP, hkP, hkPi⟩ := Cond.selects_spec hsel
  cases hcls.symm.trans q1
  cases (State.methodFound?_of_named hnamed hy).symm.trans q2
  cases hnamed.symm.trans q3
  have hselP : selectMethod e.platform s.vm cellB.cls mk = .method mk := by rw [Launch.admits_selectMethod X.admits]; exact q4
  obtain ⟨vm₁, X₁, hstep₁⟩ := X.invokevirtual hexec hown hlink hnamed hmethM hstM hkP hkPi hy (a := b) (cell := cellB) hcell
    (fun z h => by rw [h] at hobj; cases hobj) hselP hmethM habM hkP hkPi (g := g) hg (argsL := argsL) (rest := rest) (hlen _ hsigM) hstack hdg
  rcases hK m meth c ⟨T.setVm vm₁, locs, cells, slots⟩ { g with stack := rest } (.invokevirtual index) mk (Value.ref b :: argsL).toArray X₁ hg hsize hdg hW (X₁.named hnamed) (hpre vm₁ X₁.warmed) with ⟨v, B, X', hpost, hsteps⟩ | ⟨q, B, X', hpost, hsteps⟩
  · exact Or.inl ⟨v, vm₁, B, X₁.warmed, X', hpost, fun target h => hstep₁ _ fun acts => by rw [doInvoke_state]; exact hsteps.trans h⟩
  · exact Or.inr ⟨q, vm₁, B, X₁.warmed, X', hpost, hstep₁ _ fun acts => by rw [doInvoke_state]; exact hsteps⟩
theorem vx_callSX (X : Stand p l e R s m args below meth c T locs cells slots) (hexec : p.tables.exec = Jvm.exec) {own : String} {index : Nat} {y : MethodName} {bytes : ByteArray} {maxL : Nat} {ret : Option FieldType} {hh : List (Nat × Nat × Nat × Nat)}
    (hown : s.vm.findClass own = some m.cls) (hlink : (Cond.methodLink own index y).before args s = true) (hstat : (Cond.static y).before args s = true) (hinit : (Cond.initialized y.cls).before args s = true)
    (hcode : (Cond.codeWith y bytes maxL ret hh).before args s = true) (hy : y.cls ≠ "java/lang/invoke/MethodHandle" ∧ y.cls ≠ "java/lang/invoke/VarHandle")
    {W9 : Nat} {Pre : Pt → Array Value → Prop} {Post : Pt → Array Value → Option Value → Pt → Prop} {PostX : Pt → Array Value → Addr → Pt → Prop} (hK : vx_Back l R p e below s args y 3 W9 Pre Post PostX)
    {g : JFrame} (hg : g.method = m) (hsize : g.locals.size = c.maxLocals) {argsL rest : List Value} (hlen : ∀ sig, parseMethodDescriptor y.desc = some sig → argsL.length = sig.parameters.length)
    (hstack : g.stack = argsL.reverse ++ rest) (hW : 2 * g.monitorRoom + (rest.map fun v => v.category).sum ≤ W9) (hdg : decode c.code g.pc = .ok (.invokestatic index, 3))
    (hpre : ∀ vm₁, s.WarmedH vm₁ → Pre ⟨T.setVm vm₁, locs, cells, slots⟩ argsL.toArray) :
    (∃ (v : Option Value) (vm₁ : Vm) (B : Pt), s.WarmedH vm₁ ∧ Stand p l e R s m args below meth c B.U B.locs B.cells B.slots ∧ Post ⟨T.setVm vm₁, locs, cells, slots⟩ argsL.toArray v B ∧
      ∀ target, Steps p.tables e below (B.U.setTop { g with pc := g.pc + 3, stack := v.toList ++ rest }) target → Steps p.tables e below (T.setTop g) target) ∨
    (∃ (q : Addr) (vm₁ : Vm) (B : Pt), s.WarmedH vm₁ ∧ Stand p l e R s m args below meth c B.U B.locs B.cells B.slots ∧ PostX ⟨T.setVm vm₁, locs, cells, slots⟩ argsL.toArray q B ∧
      Steps p.tables e below (T.setTop g) ((B.U.setTop { g with stack := rest }).pushFrame (.throwing q))) := by
  obtain ⟨mk, methM, cM, hnamed, hmethM, -, -, -, -, -, -, hsigM⟩ := Cond.codeWith_spec hcode
  have hstatic : methM.isStatic = true := Cond.static_spec hnamed hmethM hstat
  obtain ⟨kP, hkP, -⟩ := className_of_methodNamed hnamed
  have hinitP : kP.init = .initialized := Cond.initialized_spec (findClass_of_methodNamed hnamed) hkP hinit
  obtain ⟨vm₁, X₁, hstep₁⟩ := X.invokestatic hexec hown hlink hnamed hmethM hstatic hkP hinitP hy (g := g) hg (argsL := argsL) (rest := rest) (hlen _ hsigM) hstack hdg
  rcases hK m meth c ⟨T.setVm vm₁, locs, cells, slots⟩ { g with stack := rest } (.invokestatic index) mk argsL.toArray X₁ hg hsize hdg hW (X₁.named hnamed) (hpre vm₁ X₁.warmed) with ⟨v, B, X', hpost, hsteps⟩ | ⟨q, B, X', hpost, hsteps⟩
  · exact Or.inl ⟨v, vm₁, B, X₁.warmed, X', hpost, fun target h => hstep₁ _ fun acts => by rw [doInvoke_state]; exact hsteps.trans h⟩
  · exact Or.inr ⟨q, vm₁, B, X₁.warmed, X', hpost, hstep₁ _ fun acts => by rw [doInvoke_state]; exact hsteps⟩
theorem vx_callVW (X : Stand p l e R s m args below meth c T locs cells slots) (hexec : p.tables.exec = Jvm.exec) {own C : String} {index : Nat} {y : MethodName} {bytes : ByteArray} {maxL : Nat} {ret : Option FieldType} {hh : List (Nat × Nat × Nat × Nat)}
    (hown : s.vm.findClass own = some m.cls) (hlink : (Cond.methodLink own index y).before args s = true) (hinst : (Cond.instanceMethod y).before args s = true) (hsel : (Cond.selects C y y).before args s = true)
    (hcode : (Cond.codeWith y bytes maxL ret hh).before args s = true) (hy : y.cls ≠ "java/lang/invoke/MethodHandle" ∧ y.cls ≠ "java/lang/invoke/VarHandle")
    {W9 : Nat} {Pre : Pt → Array Value → Prop} {Post : Pt → Array Value → Option Value → Pt → Prop} (hK : Back l R p e below s args y 3 W9 Pre Post)
    {b : Addr} {cellB : Cell} (hcell : T.heap[b]? = some cellB) (hobj : cellB.vm.isStatics = false) (hcls : s.vm.findClass C = some cellB.cls)
    {g : JFrame} (hg : g.method = m) (hsize : g.locals.size = c.maxLocals) {argsL rest : List Value} (hlen : ∀ sig, parseMethodDescriptor y.desc = some sig → argsL.length = sig.parameters.length)
    (hstack : g.stack = argsL.reverse ++ .ref b :: rest) (hW : 2 * g.monitorRoom + (rest.map fun v => v.category).sum ≤ W9) (hdg : decode c.code g.pc = .ok (.invokevirtual index, 3))
    (hpre : ∀ vm₁, s.WarmedH vm₁ → Pre ⟨T.setVm vm₁, locs, cells, slots⟩ (Value.ref b :: argsL).toArray) :
    ∃ (v : Option Value) (vm₁ : Vm) (B : Pt), s.WarmedH vm₁ ∧ Stand p l e R s m args below meth c B.U B.locs B.cells B.slots ∧ Post ⟨T.setVm vm₁, locs, cells, slots⟩ (Value.ref b :: argsL).toArray v B ∧
      ∀ target, Steps p.tables e below (B.U.setTop { g with pc := g.pc + 3, stack := v.toList ++ rest }) target → Steps p.tables e below (T.setTop g) target := by
  obtain ⟨mk, methM, hnamed, hmethM, hstM, habM⟩ := Cond.instanceMethod_spec hinst
  obtain ⟨m8, methM', cM, hn8, hmethM', -, -, -, -, -, -, hsigM⟩ := Cond.codeWith_spec hcode
  cases Option.some.inj (hn8.symm.trans hnamed)
  cases hmethM.symm.trans hmethM'
  obtain ⟨c2, r2, m2, q1, q2, q3, q4, kP, hkP, hkPi⟩ := Cond.selects_spec hsel
  cases hcls.symm.trans q1
  cases (State.methodFound?_of_named hnamed hy).symm.trans q2
  cases hnamed.symm.trans q3
  have hselP : selectMethod e.platform s.vm cellB.cls mk = .method mk := by rw [Launch.admits_selectMethod X.admits]; exact q4
  obtain ⟨vm₁, X₁, hstep₁⟩ := X.invokevirtual hexec hown hlink hnamed hmethM hstM hkP hkPi hy (a := b) (cell := cellB) hcell
    (fun z h => by rw [h] at hobj; cases hobj) hselP hmethM habM hkP hkPi (g := g) hg (argsL := argsL) (rest := rest) (hlen _ hsigM) hstack hdg
  obtain ⟨v, B, X', hpost, hsteps⟩ := hK m meth c ⟨T.setVm vm₁, locs, cells, slots⟩ { g with stack := rest } (.invokevirtual index) mk (Value.ref b :: argsL).toArray X₁ hg hsize hdg hW (X₁.named hnamed) (hpre vm₁ X₁.warmed)
  exact ⟨v, vm₁, B, X₁.warmed, X', hpost, fun target h => hstep₁ _ fun acts => by rw [doInvoke_state]; exact hsteps.trans h⟩
abbrev vx_CVW (R : Room) (s : State) (args : Array Value) (own C : String) (index : Nat) (y : MethodName) (bytes : ByteArray) (maxL : Nat) (ret : Option FieldType) (hh : List (Nat × Nat × Nat × Nat)) (ws : List Cond) (rm : Room) (mc ms n : Nat) : Prop :=
  (rm.cells = mc ∧ rm.slots = ms ∧ rm.frames + 1 ≤ R.frames ∧ 8 + (maxL + 11) + rm.locals ≤ R.locals ∧ (∀ w ∈ ws, ∀ (a' : Array Value) (U : State), s.WarmedH U.vm → w.before a' U = true) ∧ Cond.codeWith y bytes maxL ret hh ∈ ws) ∧
  (Cond.codeWith y bytes maxL ret hh).before args s = true ∧ (Cond.initialized y.cls).before args s = true ∧ (y.cls ≠ "java/lang/invoke/MethodHandle" ∧ y.cls ≠ "java/lang/invoke/VarHandle") ∧
  (∀ sig, parseMethodDescriptor y.desc = some sig → n = sig.parameters.length) ∧ (Cond.methodLink own index y).before args s = true ∧ (Cond.instanceMethod y).before args s = true ∧ (Cond.selects C y y).before args s = true
theorem vx_cwVW {own C : String} {index maxL mc ms : Nat} {y : MethodName} {bytes : ByteArray} {ret : Option FieldType} {hh : List (Nat × Nat × Nat × Nat)} {Ts ws ws' : List Cond} {rm : Room} (n : Nat) (ht : ∀ w ∈ Ts, w.before args s = true) (hT : GoodIn Ts (wsV own index C y ws)) (hw : ws = Cond.codeWith y bytes maxL ret hh :: ws') (hrc : rm.cells = mc) (hrs : rm.slots = ms)
    (hd : y.cls = C ∧ y.cls ≠ "java/lang/invoke/MethodHandle" ∧ y.cls ≠ "java/lang/invoke/VarHandle" ∧ (parseMethodDescriptor y.desc).map (fun d => d.parameters.length) = some n) (hR : rm.frames + 1 ≤ R.frames ∧ 8 + (maxL + 11) + rm.locals ≤ R.locals) :
    vx_CVW R s args own C index y bytes maxL ret hh ws rm mc ms n := by
  obtain ⟨hC, hd⟩ := hd
  subst hC
  have ok : ∀ w ∈ wsV own index y.cls y ws, w.before args s = true := fun w h => ht w (hT w h).1
  have hG : GoodIn Ts ws := fun w h => hT w (by unfold wsV; exact List.mem_append_right _ h)
  have hc : Cond.codeWith y bytes maxL ret hh ∈ ws := by rw [hw]; exact List.mem_cons_self
  refine ⟨⟨hrc, hrs, hR.1, hR.2, pay_in ht hG, hc⟩, ht _ (hG _ hc).1, ok _ (by simp [wsV]), ⟨hd.1, hd.2.1⟩, fun sig h => ?_, ok _ (by simp [wsV]), ok _ (by simp [wsV]), ok _ (by simp [wsV])⟩
  have h2 := hd.2.2
  rw [h] at h2
  exact (Option.some.inj h2).symm
theorem vx_runVW {y : MethodName} {bytes cc : ByteArray} {maxL nL mc ms n index : Nat} {ret : Option FieldType} {hh : List (Nat × Nat × Nat × Nat)} {ws : List Cond} {rm : Room} {Pc : Array Value → State → Prop} {Qc : Array Value → State → Outcome → State → Prop} {free : Addr → Prop} {Ts : List Cond} {own C : String} {b : Addr} {As rest : List Value} {g : JFrame}
    (S : CallFix p m c cc nL s args Ts own) (hM : Met l y ws rm Pc Qc mc ms free) (cw : vx_CVW R s args own C index y bytes maxL ret hh ws rm mc ms n) (hp : PreV s H C b Pc As)
    (hg : g.method = m) (hn : As.length = n) (hsize : g.locals.size = nL) (hstack : g.stack = As.reverse ++ .ref b :: rest) (hW : 2 * g.monitorRoom + (rest.map fun v => v.category).sum ≤ 8) (hdg : decode cc g.pc = .ok (.invokevirtual index, 3)) (hf : cells + mc ≤ R.cells ∧ slots + ms ≤ R.slots) :
    va_Run p l e R s m args below meth c H locs cells slots mc ms g rest (Qc (Value.ref b :: As).toArray) free := by
  obtain ⟨⟨hrc, hrs, hfr, hlo, hws, hcw⟩, hcode, hini, hy, hlen, hl, hin, hse⟩ := cw
  have hK : Back l R p e below s args y 3 8 (PreOf R mc ms Pc) (PostOf Qc mc ms free) := va_backW (hh := hh) (bytes := bytes) (maxL := maxL) (ret := ret) hM hp.1 hrc hrs hfr hlo hws hcw (fun a' U hW => word_at hW (Or.inl (by first | rfl | simp [Cond.onTables, Cond.keeps, Cond.steady])) hini)
  obtain ⟨hx, hb, hml, ho, -⟩ := S
  obtain ⟨-, ⟨cellB, hcB, hoB, hclB⟩, hPc⟩ := hp
  intro T hT X
  obtain ⟨v, vm₁, ⟨U', l2, c2, s2⟩, hW₁, X', ⟨g', mk, t, L, e1, e2, hq, h1, hL, h2, h3⟩, st⟩ := vx_callVW X hx (C := C) (hh := hh) (bytes := bytes) (maxL := maxL) (ret := ret) ho hl hin hse hcode hy hK (by rw [hT]; exact hcB) hoB hclB hg (hsize.trans hml.symm) (argsL := As) (rest := rest) (fun sig h => hn.trans (hlen sig h)) hstack hW (by rw [hb]; exact hdg)
    (fun vm₁ hW₁ => ⟨hf.1, hf.2, hPc (T.setVm vm₁) hT hW₁⟩)
  dsimp only [Pt.U, Pt.locs, Pt.cells, Pt.slots] at X' e1 e2 h1 h2 h3 st
  subst h1; subst h2; subst h3
  exact ⟨v, (T.setVm vm₁).calling g' mk (Value.ref b :: As).toArray, t, U', L, hT, X', hL, e1, e2, hq, st⟩
section
variable {y : MethodName} {bytes cc : ByteArray} {maxL nL mc ms n index : Nat} {ret : Option FieldType} {ws : List Cond} {rm : Room} {Pc : Array Value → State → Prop} {Qc : Array Value → State → Outcome → State → Prop} {XC : String → State → State → Prop} {free : Addr → Prop} {Ts : List Cond} {own C : String} {b : Addr} {As rest : List Value} {g : JFrame}
theorem vx_runVX {hh : List (Nat × Nat × Nat × Nat)} (S : CallFix p m c cc nL s args Ts own) (hM : vx_Met l y ws rm Pc Qc XC mc ms free) (cw : vx_CVW R s args own C index y bytes maxL ret hh ws rm mc ms n) (hp : PreV s H C b Pc As)
    (hg : g.method = m) (hn : As.length = n) (hsize : g.locals.size = nL) (hstack : g.stack = As.reverse ++ .ref b :: rest) (hW : 2 * g.monitorRoom + (rest.map fun v => v.category).sum ≤ 8) (hdg : decode cc g.pc = .ok (.invokevirtual index, 3)) (hf : cells + mc ≤ R.cells ∧ slots + ms ≤ R.slots) :
    vx_Run p l e R s m args below meth c H locs cells slots mc ms g rest (Qc (Value.ref b :: As).toArray) XC free := by
  obtain ⟨⟨hrc, hrs, hfr, hlo, hws, hcw⟩, hcode, hini, hy, hlen, hl, hin, hse⟩ := cw
  have hK : vx_Back l R p e below s args y 3 8 (PreOf R mc ms Pc) (PostOf Qc mc ms free) (vx_Post XC mc ms free) := vx_backW (hh := hh) (bytes := bytes) (maxL := maxL) (ret := ret) hM hp.1 hrc hrs hfr hlo hws hcw (fun a' U hW => word_at hW (Or.inl (by first | rfl | simp [Cond.onTables, Cond.keeps, Cond.steady])) hini)
  obtain ⟨hx, hb, hml, ho, -⟩ := S
  obtain ⟨-, ⟨cellB, hcB, hoB, hclB⟩, hPc⟩ := hp
  intro T hT X
  rcases vx_callVX X hx (C := C) (hh := hh) (bytes := bytes) (maxL := maxL) (ret := ret) ho hl hin hse hcode hy hK (by rw [hT]; exact hcB) hoB hclB hg (hsize.trans hml.symm) (argsL := As) (rest := rest) (fun sig h => hn.trans (hlen sig h)) hstack hW (by rw [hb]; exact hdg)
    (fun vm₁ hW₁ => ⟨hf.1, hf.2, hPc (T.setVm vm₁) hT hW₁⟩) with ⟨v, vm₁, ⟨U', l2, c2, s2⟩, hW₁, X', ⟨g', mk, t, L, e1, e2, hq, h1, hL, h2, h3⟩, st⟩ | ⟨q, vm₁, ⟨U', l2, c2, s2⟩, hW₁, X', ⟨g', mk, t, L, E, ce, e1, e2, hq, hce, hcv, hcl, h1, hL, h2, h3⟩, st⟩
  · dsimp only [Pt.U, Pt.locs, Pt.cells, Pt.slots] at X' e1 e2 h1 h2 h3 st
    subst h1; subst h2; subst h3
    exact Or.inl ⟨v, (T.setVm vm₁).calling g' mk (Value.ref b :: As).toArray, t, U', L, hT, X', hL, e1, e2, hq, st⟩
  · dsimp only [Pt.U, Pt.locs, Pt.cells, Pt.slots] at X' e1 e2 h1 h2 h3 st hcl
    subst h1; subst h2; subst h3
    exact Or.inr ⟨q, (T.setVm vm₁).calling g' mk (Value.ref b :: As).toArray, t, U', L, E, ce, hT, X', hL, e1, e2, hq, hce, hcv, vx_cls hW₁ hcl, st⟩
theorem vx_runSX {hh : List (Nat × Nat × Nat × Nat)} (S : CallFix p m c cc nL s args Ts own) (hM : vx_Met l y ws rm Pc Qc XC mc ms free) (cw : vx_CSW R s args own index y bytes maxL ret hh ws rm mc ms n) (hp : PreS s H Pc As)
    (hg : g.method = m) (hn : As.length = n) (hsize : g.locals.size = nL) (hstack : g.stack = As.reverse ++ rest) (hW : 2 * g.monitorRoom + (rest.map fun v => v.category).sum ≤ 8) (hdg : decode cc g.pc = .ok (.invokestatic index, 3)) (hf : cells + mc ≤ R.cells ∧ slots + ms ≤ R.slots) :
    vx_Run p l e R s m args below meth c H locs cells slots mc ms g rest (Qc As.toArray) XC free := by
  obtain ⟨⟨hrc, hrs, hfr, hlo, hws, hcw⟩, hcode, hini, hy, hlen, hl, hstt⟩ := cw
  have hK : vx_Back l R p e below s args y 3 8 (PreOf R mc ms Pc) (PostOf Qc mc ms free) (vx_Post XC mc ms free) := vx_backW (hh := hh) (bytes := bytes) (maxL := maxL) (ret := ret) hM hp.1 hrc hrs hfr hlo hws hcw (fun a' U hW => word_at hW (Or.inl (by first | rfl | simp [Cond.onTables, Cond.keeps, Cond.steady])) hini)
  obtain ⟨hx, hb, hml, ho, -⟩ := S
  intro T hT X
  rcases vx_callSX X hx (hh := hh) (bytes := bytes) (maxL := maxL) (ret := ret) ho hl hstt hini hcode hy hK hg (hsize.trans hml.symm) (argsL := As) (rest := rest) (fun sig h => hn.trans (hlen sig h)) hstack hW (by rw [hb]; exact hdg)
    (fun vm₁ hW₁ => ⟨hf.1, hf.2, hp.2 (T.setVm vm₁) hT hW₁⟩) with ⟨v, vm₁, ⟨U', l2, c2, s2⟩, hW₁, X', ⟨g', mk, t, L, e1, e2, hq, h1, hL, h2, h3⟩, st⟩ | ⟨q, vm₁, ⟨U', l2, c2, s2⟩, hW₁, X', ⟨g', mk, t, L, E, ce, e1, e2, hq, hce, hcv, hcl, h1, hL, h2, h3⟩, st⟩
  · dsimp only [Pt.U, Pt.locs, Pt.cells, Pt.slots] at X' e1 e2 h1 h2 h3 st
    subst h1; subst h2; subst h3
    exact Or.inl ⟨v, (T.setVm vm₁).calling g' mk As.toArray, t, U', L, hT, X', hL, e1, e2, hq, st⟩
  · dsimp only [Pt.U, Pt.locs, Pt.cells, Pt.slots] at X' e1 e2 h1 h2 h3 st hcl
    subst h1; subst h2; subst h3
    exact Or.inr ⟨q, (T.setVm vm₁).calling g' mk As.toArray, t, U', L, E, ce, hT, X', hL, e1, e2, hq, hce, hcv, vx_cls hW₁ hcl, st⟩
end
end VXH
theorem vx_ofWH {l : Launch} {y : MethodName} {ws ws' : List Cond} {rm : Room} {Pc : Array Value → State → Prop} {Qc : Array Value → State → Outcome → State → Prop} {XC : String → State → State → Prop} {mc ms : Nat} {free : Addr → Prop} {cc : ByteArray} {maxL : Nat} {ret : Option FieldType} {hh : List (Nat × Nat × Nat × Nat)}
    (hy : plainName y.cls = true) (hw : ws = Cond.codeWith y cc maxL ret hh :: ws')
    (body : ∀ p e s m args below meth c s₁, BodyLoose p l y (headSpec ws rm) cc maxL ret e s m args below meth c s₁ → c.maxLocals = maxL → Pc args s →
      W p l e (headSpec ws rm).room s m args below meth c s.heap [] 0 0 (vx_MQ below Qc XC args s mc ms free) (entryFrame m args maxL)) : vx_Met l y ws rm Pc Qc XC mc ms free := by
  refine MetFree.of_bodyS (code := cc) (maxLocals := maxL) (ret := ret) hy ?_ ?_
  · intro args s m h hn
    obtain ⟨m9, meth, c, hn9, h1, h2, h3, h4, -, h5, h6, -⟩ := Cond.codeWith_spec (atoms_spec (ws := ws) h _ (by rw [hw]; exact List.mem_cons_self))
    cases hn.symm.trans hn9
    exact ⟨meth, c, h1, h2, h3, h4, h5, h6⟩
  · intro p e s m args below meth c s₁ B hml hP _
    have hh0 : s₁.heap = s.heap := by rw [B.state]; rfl
    obtain ⟨t, a1, o, b1, b2, b3⟩ := body p e s m args below meth c s₁ B hml hP s₁ hh0 (Stand.of_body B)
    exact ⟨t, o, a1, b1, b2, b3⟩
/-! ===== END ===== -/
end
section
/-! ===== BEGIN printed: names, fields, word lists, decode rows ===== -/
def RX0 : String := "NobodysTuesday$Club"
def TX0 : u_T := fun k => match k with
  | 0 => ("NobodysTuesday$Club", "lines", "I", false)
  | 1 => ("NobodysTuesday$Club", "quota", "I", false)
  | 2 => ("NobodysTuesday$Club", "dinner", "I", false)
  | 3 => ("NobodysTuesday$Club", "fog", "I", false)
  | 4 => ("NobodysTuesday$Club", "members", "I", false)
  | 5 => ("NobodysTuesday$Club", "umbrellas", "I", false)
  | 6 => ("NobodysTuesday$Club", "week", "I", false)
  | 7 => ("NobodysTuesday$Club", "willing", "I", false)
  | 8 => ("NobodysTuesday$Club", "payers", "I", false)
  | 9 => ("NobodysTuesday$Club", "losers", "I", false)
  | 10 => ("NobodysTuesday$Club", "rule", "[I", true)
  | 11 => ("NobodysTuesday$Club", "number", "[I", true)
  | 12 => ("NobodysTuesday$Club", "cost", "[I", true)
  | _ => ("NobodysTuesday$Club", "sets", "[I", true)
def tyX0 : Nat → FieldType := fun k => match k with
  | 0 => .int
  | 1 => .int
  | 2 => .int
  | 3 => .int
  | 4 => .int
  | 5 => .int
  | 6 => .int
  | 7 => .int
  | 8 => .int
  | 9 => .int
  | 10 => .array .int
  | 11 => .array .int
  | 12 => .array .int
  | _ => .array .int
abbrev wsX00 : List Cond := u_ws RX0 TX0 14
theorem nmX0 : ∀ a, a < 14 → ∀ b, b < 14 → a ≠ b → (TX0 a).2.1 ≠ (TX0 b).2.1 := by decide +kernel
theorem tyX0_ok : ∀ k, k < 14 → parseFieldDescriptor (TX0 k).2.2.1 = some (tyX0 k) := by decide +kernel
abbrev cX0_init : ByteArray := prog_2_method_1_code
def yX0_init : MethodName := ⟨RX0, "<init>", "()V"⟩
abbrev cX0_clear : ByteArray := prog_2_method_2_code
def yX0_clear : MethodName := ⟨RX0, "clear", "()V"⟩
abbrev cX0_join : ByteArray := prog_2_method_3_code
def yX0_join : MethodName := ⟨RX0, "join", "(IIIZ)V"⟩
abbrev cX0_weigh : ByteArray := prog_2_method_4_code
def yX0_weigh : MethodName := ⟨RX0, "weigh", "()V"⟩
abbrev cX0_become : ByteArray := prog_2_method_5_code
def yX0_become : MethodName := ⟨RX0, "become", "(LNobodysTuesday$Club;)V"⟩
abbrev cX0_giveRule : ByteArray := prog_2_method_6_code
def yX0_giveRule : MethodName := ⟨RX0, "giveRule", "(III)V"⟩
abbrev cX0_addWeek : ByteArray := prog_2_method_7_code
def yX0_addWeek : MethodName := ⟨RX0, "addWeek", "(I)V"⟩
abbrev cX0_everyone : ByteArray := prog_2_method_8_code
def yX0_everyone : MethodName := ⟨RX0, "everyone", "()I"⟩
abbrev cX0_has : ByteArray := prog_2_method_9_code
def yX0_has : MethodName := ⟨RX0, "has", "(II)Z"⟩
abbrev cX0_lastSet : ByteArray := prog_2_method_10_code
def yX0_lastSet : MethodName := ⟨RX0, "lastSet", "()I"⟩
abbrev cX0_meets : ByteArray := prog_2_method_11_code
def yX0_meets : MethodName := ⟨RX0, "meets", "(I)Z"⟩
abbrev cX0_payOf : ByteArray := prog_2_method_12_code
def yX0_payOf : MethodName := ⟨RX0, "payOf", "(II)I"⟩
abbrev cX0_gainOf : ByteArray := prog_2_method_13_code
def yX0_gainOf : MethodName := ⟨RX0, "gainOf", "(II)I"⟩
abbrev cX0_payOfAll : ByteArray := prog_2_method_14_code
def yX0_payOfAll : MethodName := ⟨RX0, "payOfAll", "(I)I"⟩
abbrev cX0_costOfAll : ByteArray := prog_2_method_15_code
def yX0_costOfAll : MethodName := ⟨RX0, "costOfAll", "(I)I"⟩
abbrev cX0_bribeFor : ByteArray := prog_2_method_16_code
def yX0_bribeFor : MethodName := ⟨RX0, "bribeFor", "(I)I"⟩
abbrev cX0_eager : ByteArray := prog_2_method_17_code
def yX0_eager : MethodName := ⟨RX0, "eager", "(I)I"⟩
abbrev cX0_isStrong : ByteArray := prog_2_method_18_code
def yX0_isStrong : MethodName := ⟨RX0, "isStrong", "(I)Z"⟩
abbrev cX0_thoughts : ByteArray := prog_2_method_19_code
def yX0_thoughts : MethodName := ⟨RX0, "thoughts", "(II)I"⟩
abbrev cX0_hatsAhead : ByteArray := prog_2_method_20_code
def yX0_hatsAhead : MethodName := ⟨RX0, "hatsAhead", "(II)I"⟩
abbrev cX0_comesBySeeing : ByteArray := prog_2_method_21_code
def yX0_comesBySeeing : MethodName := ⟨RX0, "comesBySeeing", "(II)Z"⟩
abbrev cX0_hasLearner : ByteArray := prog_2_method_22_code
def yX0_hasLearner : MethodName := ⟨RX0, "hasLearner", "()Z"⟩
abbrev cX0_roundOfWeeks : ByteArray := prog_2_method_23_code
def yX0_roundOfWeeks : MethodName := ⟨RX0, "roundOfWeeks", "()I"⟩
abbrev cX0_leastMultiple : ByteArray := prog_2_method_24_code
def yX0_leastMultiple : MethodName := ⟨RX0, "leastMultiple", "(II)I"⟩
abbrev cX0_weeksOf : ByteArray := prog_2_method_25_code
def yX0_weeksOf : MethodName := ⟨RX0, "weeksOf", "(I)I"⟩
abbrev cX0_dinnersOf : ByteArray := prog_2_method_26_code
def yX0_dinnersOf : MethodName := ⟨RX0, "dinnersOf", "(I)I"⟩
abbrev cX0_weeksMet : ByteArray := prog_2_method_27_code
def yX0_weeksMet : MethodName := ⟨RX0, "weeksMet", "()I"⟩
abbrev cX0_weeksOfJust : ByteArray := prog_2_method_28_code
def yX0_weeksOfJust : MethodName := ⟨RX0, "weeksOfJust", "(II)I"⟩
abbrev cX0_guessOf : ByteArray := prog_2_method_29_code
def yX0_guessOf : MethodName := ⟨RX0, "guessOf", "(II)I"⟩
abbrev cX0_comersUntil : ByteArray := prog_2_method_30_code
def yX0_comersUntil : MethodName := ⟨RX0, "comersUntil", "(I)I"⟩
abbrev cX0_mostOftenUntil : ByteArray := prog_2_method_31_code
def yX0_mostOftenUntil : MethodName := ⟨RX0, "mostOftenUntil", "(I)I"⟩
def RX1 : String := "NobodysTuesday$Course"
def TX1 : u_T := fun k => match k with
  | 0 => ("NobodysTuesday$Course", "club", "LNobodysTuesday$Club;", false)
  | 1 => ("NobodysTuesday$Course", "week", "I", false)
  | 2 => ("NobodysTuesday$Course", "last", "I", false)
  | 3 => ("NobodysTuesday$Course", "foggy", "Z", false)
  | 4 => ("NobodysTuesday$Course", "draws", "I", false)
  | _ => ("NobodysTuesday$Course", "learned", "[I", true)
def tyX1 : Nat → FieldType := fun k => match k with
  | 0 => .object "NobodysTuesday$Club"
  | 1 => .int
  | 2 => .int
  | 3 => .boolean
  | 4 => .int
  | _ => .array .int
abbrev wsX10 : List Cond := u_ws RX1 TX1 6
theorem nmX1 : ∀ a, a < 6 → ∀ b, b < 6 → a ≠ b → (TX1 a).2.1 ≠ (TX1 b).2.1 := by decide +kernel
theorem tyX1_ok : ∀ k, k < 6 → parseFieldDescriptor (TX1 k).2.2.1 = some (tyX1 k) := by decide +kernel
abbrev cX1_init : ByteArray := prog_3_method_1_code
def yX1_init : MethodName := ⟨RX1, "<init>", "(LNobodysTuesday$Club;)V"⟩
abbrev cX1_start : ByteArray := prog_3_method_2_code
def yX1_start : MethodName := ⟨RX1, "start", "(LNobodysTuesday$Club;)V"⟩
abbrev cX1_recall : ByteArray := prog_3_method_3_code
def yX1_recall : MethodName := ⟨RX1, "recall", "(I)V"⟩
abbrev cX1_go : ByteArray := prog_3_method_4_code
def yX1_go : MethodName := ⟨RX1, "go", "()I"⟩
abbrev cX1_comersInFog : ByteArray := prog_3_method_5_code
def yX1_comersInFog : MethodName := ⟨RX1, "comersInFog", "(I)I"⟩
abbrev cX1_comers : ByteArray := prog_3_method_6_code
def yX1_comers : MethodName := ⟨RX1, "comers", "()I"⟩
abbrev cX1_comes : ByteArray := prog_3_method_7_code
def yX1_comes : MethodName := ⟨RX1, "comes", "(II)Z"⟩
abbrev cX1_hatsSeen : ByteArray := prog_3_method_8_code
def yX1_hatsSeen : MethodName := ⟨RX1, "hatsSeen", "(I)I"⟩
abbrev cX1_meetings : ByteArray := prog_3_method_9_code
def yX1_meetings : MethodName := ⟨RX1, "meetings", "(LNobodysTuesday$Club;I)I"⟩
abbrev cX1_payAhead : ByteArray := prog_3_method_10_code
def yX1_payAhead : MethodName := ⟨RX1, "payAhead", "(LNobodysTuesday$Club;II)I"⟩
def RX2 : String := "NobodysTuesday$Reader"
def TX2 : u_T := fun k => match k with
  | 0 => ("NobodysTuesday$Reader", "tape", "[B", true)
  | 1 => ("NobodysTuesday$Reader", "length", "I", false)
  | 2 => ("NobodysTuesday$Reader", "fault", "I", false)
  | 3 => ("NobodysTuesday$Reader", "place", "I", false)
  | 4 => ("NobodysTuesday$Reader", "end", "I", false)
  | 5 => ("NobodysTuesday$Reader", "at", "I", false)
  | 6 => ("NobodysTuesday$Reader", "kind", "I", false)
  | 7 => ("NobodysTuesday$Reader", "start", "I", false)
  | _ => ("NobodysTuesday$Reader", "draft", "LNobodysTuesday$Club;", false)
def tyX2 : Nat → FieldType := fun k => match k with
  | 0 => .array .byte
  | 1 => .int
  | 2 => .int
  | 3 => .int
  | 4 => .int
  | 5 => .int
  | 6 => .int
  | 7 => .int
  | _ => .object "NobodysTuesday$Club"
abbrev wsX20 : List Cond := u_ws RX2 TX2 9
theorem nmX2 : ∀ a, a < 9 → ∀ b, b < 9 → a ≠ b → (TX2 a).2.1 ≠ (TX2 b).2.1 := by decide +kernel
theorem tyX2_ok : ∀ k, k < 9 → parseFieldDescriptor (TX2 k).2.2.1 = some (tyX2 k) := by decide +kernel
abbrev cX2_init : ByteArray := prog_4_method_1_code
def yX2_init : MethodName := ⟨RX2, "<init>", "(LNobodysTuesday$Club;)V"⟩
abbrev cX2_lay : ByteArray := prog_4_method_2_code
def yX2_lay : MethodName := ⟨RX2, "lay", "(I)V"⟩
abbrev cX2_read : ByteArray := prog_4_method_3_code
def yX2_read : MethodName := ⟨RX2, "read", "(ILNobodysTuesday$Club;)Z"⟩
abbrev cX2_readLine : ByteArray := prog_4_method_4_code
def yX2_readLine : MethodName := ⟨RX2, "readLine", "()Z"⟩
abbrev cX2_readMember : ByteArray := prog_4_method_5_code
def yX2_readMember : MethodName := ⟨RX2, "readMember", "()Z"⟩
abbrev cX2_ruleHere : ByteArray := prog_4_method_6_code
def yX2_ruleHere : MethodName := ⟨RX2, "ruleHere", "()I"⟩
abbrev cX2_wordOf : ByteArray := prog_4_method_7_code
def yX2_wordOf : MethodName := ⟨RX2, "wordOf", "(I)Ljava/lang/String;"⟩
abbrev cX2_takeSemicolon : ByteArray := prog_4_method_8_code
def yX2_takeSemicolon : MethodName := ⟨RX2, "takeSemicolon", "()Z"⟩
abbrev cX2_takeNumber : ByteArray := prog_4_method_9_code
def yX2_takeNumber : MethodName := ⟨RX2, "takeNumber", "(II)I"⟩
abbrev cX2_refuseMisfit : ByteArray := prog_4_method_10_code
def yX2_refuseMisfit : MethodName := ⟨RX2, "refuseMisfit", "()Z"⟩
abbrev cX2_refuse : ByteArray := prog_4_method_11_code
def yX2_refuse : MethodName := ⟨RX2, "refuse", "(I)Z"⟩
abbrev cX2_isWord : ByteArray := prog_4_method_12_code
def yX2_isWord : MethodName := ⟨RX2, "isWord", "(Ljava/lang/String;)Z"⟩
abbrev cX2_advance : ByteArray := prog_4_method_13_code
def yX2_advance : MethodName := ⟨RX2, "advance", "()V"⟩
abbrev cX2_isLetter : ByteArray := prog_4_method_14_code
def yX2_isLetter : MethodName := ⟨RX2, "isLetter", "(B)Z"⟩
abbrev cX2_isDigit : ByteArray := prog_4_method_15_code
def yX2_isDigit : MethodName := ⟨RX2, "isDigit", "(B)Z"⟩
def RX3 : String := "NobodysTuesday$Tray"
def TX3 : u_T := fun k => match k with
  | 0 => ("NobodysTuesday$Tray", "laid", "Z", false)
  | 1 => ("NobodysTuesday$Tray", "sort", "I", false)
  | 2 => ("NobodysTuesday$Tray", "many", "I", false)
  | _ => ("NobodysTuesday$Tray", "numbers", "[J", true)
def tyX3 : Nat → FieldType := fun k => match k with
  | 0 => .boolean
  | 1 => .int
  | 2 => .int
  | _ => .array .long
abbrev wsX30 : List Cond := u_ws RX3 TX3 4
theorem nmX3 : ∀ a, a < 4 → ∀ b, b < 4 → a ≠ b → (TX3 a).2.1 ≠ (TX3 b).2.1 := by decide +kernel
theorem tyX3_ok : ∀ k, k < 4 → parseFieldDescriptor (TX3 k).2.2.1 = some (tyX3 k) := by decide +kernel
abbrev cX3_init : ByteArray := prog_5_method_1_code
def yX3_init : MethodName := ⟨RX3, "<init>", "()V"⟩
abbrev cX3_lay : ByteArray := prog_5_method_2_code
def yX3_lay : MethodName := ⟨RX3, "lay", "(II)V"⟩
abbrev cX3_put : ByteArray := prog_5_method_3_code
def yX3_put : MethodName := ⟨RX3, "put", "(IJ)J"⟩
abbrev cX3_cut : ByteArray := prog_5_method_4_code
def yX3_cut : MethodName := ⟨RX3, "cut", "(J)J"⟩
def RX4 : String := "NobodysTuesday$Turns"
def TX4 : u_T := fun k => match k with
  | 0 => ("NobodysTuesday$Turns", "order", "[I", true)
  | _ => ("NobodysTuesday$Turns", "inTheEnd", "[[I", true)
def tyX4 : Nat → FieldType := fun k => match k with
  | 0 => .array .int
  | _ => .array (.array .int)
abbrev wsX40 : List Cond := u_ws RX4 TX4 2
theorem nmX4 : ∀ a, a < 2 → ∀ b, b < 2 → a ≠ b → (TX4 a).2.1 ≠ (TX4 b).2.1 := by decide +kernel
theorem tyX4_ok : ∀ k, k < 2 → parseFieldDescriptor (TX4 k).2.2.1 = some (tyX4 k) := by decide +kernel
abbrev cX4_init : ByteArray := prog_6_method_1_code
def yX4_init : MethodName := ⟨RX4, "<init>", "()V"⟩
abbrev cX4_play : ByteArray := prog_6_method_2_code
def yX4_play : MethodName := ⟨RX4, "play", "(LNobodysTuesday$Club;)I"⟩
abbrev cX4_comesAt : ByteArray := prog_6_method_3_code
def yX4_comesAt : MethodName := ⟨RX4, "comesAt", "(LNobodysTuesday$Club;II)Z"⟩
abbrev cX4_firstOf : ByteArray := prog_6_method_4_code
def yX4_firstOf : MethodName := ⟨RX4, "firstOf", "(LNobodysTuesday$Club;I)I"⟩
def RX5 : String := "NobodysTuesday$TwoClubs"
def TX5 : u_T := fun k => match k with
  | 0 => ("NobodysTuesday$TwoClubs", "choice", "[I", true)
  | 1 => ("NobodysTuesday$TwoClubs", "club", "LNobodysTuesday$Club;", false)
  | 2 => ("NobodysTuesday$TwoClubs", "secondQuota", "I", false)
  | 3 => ("NobodysTuesday$TwoClubs", "secondDinner", "I", false)
  | 4 => ("NobodysTuesday$TwoClubs", "here", "I", false)
  | _ => ("NobodysTuesday$TwoClubs", "there", "I", false)
def tyX5 : Nat → FieldType := fun k => match k with
  | 0 => .array .int
  | 1 => .object "NobodysTuesday$Club"
  | 2 => .int
  | 3 => .int
  | 4 => .int
  | _ => .int
abbrev wsX50 : List Cond := u_ws RX5 TX5 6
theorem nmX5 : ∀ a, a < 6 → ∀ b, b < 6 → a ≠ b → (TX5 a).2.1 ≠ (TX5 b).2.1 := by decide +kernel
theorem tyX5_ok : ∀ k, k < 6 → parseFieldDescriptor (TX5 k).2.2.1 = some (tyX5 k) := by decide +kernel
abbrev cX5_init : ByteArray := prog_7_method_1_code
def yX5_init : MethodName := ⟨RX5, "<init>", "(LNobodysTuesday$Club;)V"⟩
abbrev cX5_find : ByteArray := prog_7_method_2_code
def yX5_find : MethodName := ⟨RX5, "find", "(LNobodysTuesday$Club;III)I"⟩
abbrev cX5_begin : ByteArray := prog_7_method_3_code
def yX5_begin : MethodName := ⟨RX5, "begin", "(LNobodysTuesday$Club;II)V"⟩
abbrev cX5_isAtRest : ByteArray := prog_7_method_4_code
def yX5_isAtRest : MethodName := ⟨RX5, "isAtRest", "()Z"⟩
abbrev cX5_payIn : ByteArray := prog_7_method_5_code
def yX5_payIn : MethodName := ⟨RX5, "payIn", "(III)I"⟩
abbrev cX5_turnOn : ByteArray := prog_7_method_6_code
def yX5_turnOn : MethodName := ⟨RX5, "turnOn", "()V"⟩
def RX6 : String := "NobodysTuesday"
def TX6 : u_T := fun k => match k with
  | 0 => ("NobodysTuesday", "club", "LNobodysTuesday$Club;", false)
  | 1 => ("NobodysTuesday", "draft", "LNobodysTuesday$Club;", false)
  | 2 => ("NobodysTuesday", "trial", "LNobodysTuesday$Club;", true)
  | 3 => ("NobodysTuesday", "reader", "LNobodysTuesday$Reader;", true)
  | 4 => ("NobodysTuesday", "course", "LNobodysTuesday$Course;", true)
  | 5 => ("NobodysTuesday", "turns", "LNobodysTuesday$Turns;", true)
  | 6 => ("NobodysTuesday", "twoClubs", "LNobodysTuesday$TwoClubs;", true)
  | 7 => ("NobodysTuesday", "trays", "[LNobodysTuesday$Tray;", true)
  | 8 => ("NobodysTuesday", "images", "[LNobodysTuesday$Club;", true)
  | 9 => ("NobodysTuesday", "imageMade", "[Z", true)
  | 10 => ("NobodysTuesday", "ringSets", "[I", true)
  | _ => ("NobodysTuesday", "ways", "[J", true)
def tyX6 : Nat → FieldType := fun k => match k with
  | 0 => .object "NobodysTuesday$Club"
  | 1 => .object "NobodysTuesday$Club"
  | 2 => .object "NobodysTuesday$Club"
  | 3 => .object "NobodysTuesday$Reader"
  | 4 => .object "NobodysTuesday$Course"
  | 5 => .object "NobodysTuesday$Turns"
  | 6 => .object "NobodysTuesday$TwoClubs"
  | 7 => .array (.object "NobodysTuesday$Tray")
  | 8 => .array (.object "NobodysTuesday$Club")
  | 9 => .array .boolean
  | 10 => .array .int
  | _ => .array .long
abbrev wsX60 : List Cond := u_ws RX6 TX6 12
theorem nmX6 : ∀ a, a < 12 → ∀ b, b < 12 → a ≠ b → (TX6 a).2.1 ≠ (TX6 b).2.1 := by decide +kernel
theorem tyX6_ok : ∀ k, k < 12 → parseFieldDescriptor (TX6 k).2.2.1 = some (tyX6 k) := by decide +kernel
abbrev cX6_init : ByteArray := prog_1_method_1_code
def yX6_init : MethodName := ⟨RX6, "<init>", "()V"⟩
abbrev cX6_feed : ByteArray := prog_1_method_2_code
def yX6_feed : MethodName := ⟨RX6, "feed", "(IIIII)I"⟩
abbrev cX6_club : ByteArray := prog_1_method_3_code
def yX6_club : MethodName := ⟨RX6, "club", "(I)I"⟩
abbrev cX6_fault : ByteArray := prog_1_method_4_code
def yX6_fault : MethodName := ⟨RX6, "fault", "(I)I"⟩
abbrev cX6_member : ByteArray := prog_1_method_5_code
def yX6_member : MethodName := ⟨RX6, "member", "(II)I"⟩
abbrev cX6_quota : ByteArray := prog_1_method_6_code
def yX6_quota : MethodName := ⟨RX6, "quota", "(I)I"⟩
abbrev cX6_week : ByteArray := prog_1_method_7_code
def yX6_week : MethodName := ⟨RX6, "week", "(I)I"⟩
abbrev cX6_told : ByteArray := prog_1_method_8_code
def yX6_told : MethodName := ⟨RX6, "told", "(I)Z"⟩
abbrev cX6_back : ByteArray := prog_1_method_9_code
def yX6_back : MethodName := ⟨RX6, "back", "(I)I"⟩
abbrev cX6_came : ByteArray := prog_1_method_10_code
def yX6_came : MethodName := ⟨RX6, "came", "(I)I"⟩
abbrev cX6_met : ByteArray := prog_1_method_11_code
def yX6_met : MethodName := ⟨RX6, "met", "(I)Z"⟩
abbrev cX6_next : ByteArray := prog_1_method_12_code
def yX6_next : MethodName := ⟨RX6, "next", "()I"⟩
abbrev cX6_hats : ByteArray := prog_1_method_13_code
def yX6_hats : MethodName := ⟨RX6, "hats", "(I)I"⟩
abbrev cX6_thought : ByteArray := prog_1_method_14_code
def yX6_thought : MethodName := ⟨RX6, "thought", "(II)Z"⟩
abbrev cX6_settled : ByteArray := prog_1_method_15_code
def yX6_settled : MethodName := ⟨RX6, "settled", "()I"⟩
abbrev cX6_judge : ByteArray := prog_1_method_16_code
def yX6_judge : MethodName := ⟨RX6, "judge", "(II)I"⟩
abbrev cX6_gain : ByteArray := prog_1_method_17_code
def yX6_gain : MethodName := ⟨RX6, "gain", "(II)I"⟩
abbrev cX6_rests : ByteArray := prog_1_method_18_code
def yX6_rests : MethodName := ⟨RX6, "rests", "(I)Z"⟩
abbrev cX6_rest : ByteArray := prog_1_method_19_code
def yX6_rest : MethodName := ⟨RX6, "rest", "(I)I"⟩
abbrev cX6_strong : ByteArray := prog_1_method_20_code
def yX6_strong : MethodName := ⟨RX6, "strong", "(I)Z"⟩
abbrev cX6_strongs : ByteArray := prog_1_method_21_code
def yX6_strongs : MethodName := ⟨RX6, "strongs", "(I)I"⟩
abbrev cX6_inTurn : ByteArray := prog_1_method_22_code
def yX6_inTurn : MethodName := ⟨RX6, "inTurn", "()I"⟩
abbrev cX6_turnsBy : ByteArray := prog_1_method_23_code
def yX6_turnsBy : MethodName := ⟨RX6, "turnsBy", "(II)I"⟩
abbrev cX6_takeOrder : ByteArray := prog_1_method_24_code
def yX6_takeOrder : MethodName := ⟨RX6, "takeOrder", "(LNobodysTuesday$Tray;)V"⟩
abbrev cX6_two : ByteArray := prog_1_method_25_code
def yX6_two : MethodName := ⟨RX6, "two", "(III)I"⟩
abbrev cX6_bestRest : ByteArray := prog_1_method_26_code
def yX6_bestRest : MethodName := ⟨RX6, "bestRest", "()I"⟩
abbrev cX6_pay : ByteArray := prog_1_method_27_code
def yX6_pay : MethodName := ⟨RX6, "pay", "(I)I"⟩
abbrev cX6_pivots : ByteArray := prog_1_method_28_code
def yX6_pivots : MethodName := ⟨RX6, "pivots", "(I)I"⟩
abbrev cX6_replies : ByteArray := prog_1_method_29_code
def yX6_replies : MethodName := ⟨RX6, "replies", "(II)I"⟩
abbrev cX6_bribe : ByteArray := prog_1_method_30_code
def yX6_bribe : MethodName := ⟨RX6, "bribe", "(I)I"⟩
abbrev cX6_leastBribe : ByteArray := prog_1_method_31_code
def yX6_leastBribe : MethodName := ⟨RX6, "leastBribe", "(I)I"⟩
abbrev cX6_contract : ByteArray := prog_1_method_32_code
def yX6_contract : MethodName := ⟨RX6, "contract", "(I)I"⟩
abbrev cX6_odds : ByteArray := prog_1_method_33_code
def yX6_odds : MethodName := ⟨RX6, "odds", "(III)J"⟩
abbrev cX6_bestOdds : ByteArray := prog_1_method_34_code
def yX6_bestOdds : MethodName := ⟨RX6, "bestOdds", "(I)I"⟩
abbrev cX6_chances : ByteArray := prog_1_method_35_code
def yX6_chances : MethodName := ⟨RX6, "chances", "(III)J"⟩
abbrev cX6_hope : ByteArray := prog_1_method_36_code
def yX6_hope : MethodName := ⟨RX6, "hope", "(IIII)J"⟩
abbrev cX6_ahead : ByteArray := prog_1_method_37_code
def yX6_ahead : MethodName := ⟨RX6, "ahead", "(II)I"⟩
abbrev cX6_ring : ByteArray := prog_1_method_38_code
def yX6_ring : MethodName := ⟨RX6, "ring", "(I)I"⟩
abbrev cX6_worth : ByteArray := prog_1_method_39_code
def yX6_worth : MethodName := ⟨RX6, "worth", "(II)I"⟩
abbrev cX6_bestQuota : ByteArray := prog_1_method_40_code
def yX6_bestQuota : MethodName := ⟨RX6, "bestQuota", "(I)I"⟩
abbrev cX6_bestRule : ByteArray := prog_1_method_41_code
def yX6_bestRule : MethodName := ⟨RX6, "bestRule", "(III)I"⟩
abbrev cX6_streak : ByteArray := prog_1_method_42_code
def yX6_streak : MethodName := ⟨RX6, "streak", "(I)I"⟩
abbrev cX6_tally : ByteArray := prog_1_method_43_code
def yX6_tally : MethodName := ⟨RX6, "tally", "(I)I"⟩
abbrev cX6_together : ByteArray := prog_1_method_44_code
def yX6_together : MethodName := ⟨RX6, "together", "(II)I"⟩
abbrev cX6_friends : ByteArray := prog_1_method_45_code
def yX6_friends : MethodName := ⟨RX6, "friends", "()I"⟩
abbrev cX6_doubts : ByteArray := prog_1_method_46_code
def yX6_doubts : MethodName := ⟨RX6, "doubts", "(II)I"⟩
abbrev cX6_cook : ByteArray := prog_1_method_47_code
def yX6_cook : MethodName := ⟨RX6, "cook", "(I)I"⟩
abbrev cX6_guess : ByteArray := prog_1_method_48_code
def yX6_guess : MethodName := ⟨RX6, "guess", "(I)I"⟩
abbrev cX6_tray : ByteArray := prog_1_method_49_code
def yX6_tray : MethodName := ⟨RX6, "tray", "(III)V"⟩
abbrev cX6_write : ByteArray := prog_1_method_50_code
def yX6_write : MethodName := ⟨RX6, "write", "(IIJ)J"⟩
abbrev cX6_pour : ByteArray := prog_1_method_51_code
def yX6_pour : MethodName := ⟨RX6, "pour", "(I)I"⟩
abbrev cX6_image : ByteArray := prog_1_method_52_code
def yX6_image : MethodName := ⟨RX6, "image", "(I)V"⟩
abbrev cX6_restore : ByteArray := prog_1_method_53_code
def yX6_restore : MethodName := ⟨RX6, "restore", "(I)V"⟩
abbrev cX6_count : ByteArray := prog_1_method_54_code
def yX6_count : MethodName := ⟨RX6, "count", "(I)I"⟩
abbrev cX6_requireWithin : ByteArray := prog_1_method_55_code
def yX6_requireWithin : MethodName := ⟨RX6, "requireWithin", "(III)V"⟩
abbrev cX6_requireChance : ByteArray := prog_1_method_56_code
def yX6_requireChance : MethodName := ⟨RX6, "requireChance", "(II)V"⟩
abbrev cX6_requireChances : ByteArray := prog_1_method_57_code
def yX6_requireChances : MethodName := ⟨RX6, "requireChances", "(LNobodysTuesday$Tray;I)V"⟩
abbrev cX6_requireMember : ByteArray := prog_1_method_58_code
def yX6_requireMember : MethodName := ⟨RX6, "requireMember", "(I)V"⟩
abbrev cX6_requireWeek : ByteArray := prog_1_method_59_code
def yX6_requireWeek : MethodName := ⟨RX6, "requireWeek", "(I)V"⟩
abbrev cX6_requireRoomForWeek : ByteArray := prog_1_method_60_code
def yX6_requireRoomForWeek : MethodName := ⟨RX6, "requireRoomForWeek", "()V"⟩
abbrev cX6_requireSet : ByteArray := prog_1_method_61_code
def yX6_requireSet : MethodName := ⟨RX6, "requireSet", "(I)V"⟩
abbrev cX6_requireImage : ByteArray := prog_1_method_62_code
def yX6_requireImage : MethodName := ⟨RX6, "requireImage", "(I)V"⟩
abbrev cX6_requireTray : ByteArray := prog_1_method_63_code
def yX6_requireTray : MethodName := ⟨RX6, "requireTray", "(I)V"⟩
abbrev cX6_laidTray : ByteArray := prog_1_method_64_code
def yX6_laidTray : MethodName := ⟨RX6, "laidTray", "(I)LNobodysTuesday$Tray;"⟩
abbrev cX6_waysThat : ByteArray := prog_1_method_65_code
def yX6_waysThat : MethodName := ⟨RX6, "waysThat", "(IIII)J"⟩
abbrev cX6_choose : ByteArray := prog_1_method_66_code
def yX6_choose : MethodName := ⟨RX6, "choose", "(II)J"⟩
abbrev cX6_power : ByteArray := prog_1_method_67_code
def yX6_power : MethodName := ⟨RX6, "power", "(II)J"⟩
def RX7 : String := "NobodysTuesdayModel"
def TX7 : u_T := fun k => match k with
  | 0 => ("NobodysTuesdayModel", "known", "[I", true)
  | 1 => ("NobodysTuesdayModel", "fresh", "[I", true)
  | 2 => ("NobodysTuesdayModel", "images", "[I", true)
  | 3 => ("NobodysTuesdayModel", "isImage", "[Z", true)
  | 4 => ("NobodysTuesdayModel", "thrown", "I", false)
  | 5 => ("NobodysTuesdayModel", "tape", "[I", true)
  | 6 => ("NobodysTuesdayModel", "taped", "I", false)
  | 7 => ("NobodysTuesdayModel", "length", "I", false)
  | 8 => ("NobodysTuesdayModel", "at", "I", false)
  | 9 => ("NobodysTuesdayModel", "begin", "I", false)
  | 10 => ("NobodysTuesdayModel", "token", "I", false)
  | 11 => ("NobodysTuesdayModel", "value", "I", false)
  | 12 => ("NobodysTuesdayModel", "bad", "I", false)
  | 13 => ("NobodysTuesdayModel", "badPlace", "I", false)
  | 14 => ("NobodysTuesdayModel", "faultKind", "I", false)
  | 15 => ("NobodysTuesdayModel", "faultPlace", "I", false)
  | 16 => ("NobodysTuesdayModel", "past", "[I", true)
  | 17 => ("NobodysTuesdayModel", "pastMany", "I", false)
  | 18 => ("NobodysTuesdayModel", "state", "I", false)
  | 19 => ("NobodysTuesdayModel", "order", "[I", true)
  | 20 => ("NobodysTuesdayModel", "ends", "[I", true)
  | 21 => ("NobodysTuesdayModel", "does", "[I", true)
  | 22 => ("NobodysTuesdayModel", "crowd", "[I", true)
  | 23 => ("NobodysTuesdayModel", "ways", "[J", true)
  | 24 => ("NobodysTuesdayModel", "lasts", "[I", true)
  | 25 => ("NobodysTuesdayModel", "tSort", "[I", true)
  | 26 => ("NobodysTuesdayModel", "tMany", "[I", true)
  | _ => ("NobodysTuesdayModel", "numbers", "[J", true)
def tyX7 : Nat → FieldType := fun k => match k with
  | 0 => .array .int
  | 1 => .array .int
  | 2 => .array .int
  | 3 => .array .boolean
  | 4 => .int
  | 5 => .array .int
  | 6 => .int
  | 7 => .int
  | 8 => .int
  | 9 => .int
  | 10 => .int
  | 11 => .int
  | 12 => .int
  | 13 => .int
  | 14 => .int
  | 15 => .int
  | 16 => .array .int
  | 17 => .int
  | 18 => .int
  | 19 => .array .int
  | 20 => .array .int
  | 21 => .array .int
  | 22 => .array .int
  | 23 => .array .long
  | 24 => .array .int
  | 25 => .array .int
  | 26 => .array .int
  | _ => .array .long
abbrev wsX70 : List Cond := u_ws RX7 TX7 28
theorem nmX7 : ∀ a, a < 28 → ∀ b, b < 28 → a ≠ b → (TX7 a).2.1 ≠ (TX7 b).2.1 := by decide +kernel
theorem tyX7_ok : ∀ k, k < 28 → parseFieldDescriptor (TX7 k).2.2.1 = some (tyX7 k) := by decide +kernel
abbrev cX7_init : ByteArray := prog_9_method_1_code
def yX7_init : MethodName := ⟨RX7, "<init>", "()V"⟩
abbrev cX7_thrown : ByteArray := prog_9_method_2_code
def yX7_thrown : MethodName := ⟨RX7, "thrown", "()I"⟩
abbrev cX7_fails : ByteArray := prog_9_method_3_code
def yX7_fails : MethodName := ⟨RX7, "fails", "(I)I"⟩
abbrev cX7_within : ByteArray := prog_9_method_4_code
def yX7_within : MethodName := ⟨RX7, "within", "(JJJ)Z"⟩
abbrev cX7_has : ByteArray := prog_9_method_5_code
def yX7_has : MethodName := ⟨RX7, "has", "(II)Z"⟩
abbrev cX7_size : ByteArray := prog_9_method_6_code
def yX7_size : MethodName := ⟨RX7, "size", "(I)I"⟩
abbrev cX7_copies : ByteArray := prog_9_method_7_code
def yX7_copies : MethodName := ⟨RX7, "copies", "([I[I)V"⟩
abbrev cX7_begins : ByteArray := prog_9_method_8_code
def yX7_begins : MethodName := ⟨RX7, "begins", "([I)V"⟩
abbrev cX7_feed : ByteArray := prog_9_method_9_code
def yX7_feed : MethodName := ⟨RX7, "feed", "(IIIII)I"⟩
abbrev cX7_see : ByteArray := prog_9_method_10_code
def yX7_see : MethodName := ⟨RX7, "see", "(I)I"⟩
abbrev cX7_isLetter : ByteArray := prog_9_method_11_code
def yX7_isLetter : MethodName := ⟨RX7, "isLetter", "(I)Z"⟩
abbrev cX7_isDigit : ByteArray := prog_9_method_12_code
def yX7_isDigit : MethodName := ⟨RX7, "isDigit", "(I)Z"⟩
abbrev cX7_reads : ByteArray := prog_9_method_13_code
def yX7_reads : MethodName := ⟨RX7, "reads", "()V"⟩
abbrev cX7_blames : ByteArray := prog_9_method_14_code
def yX7_blames : MethodName := ⟨RX7, "blames", "(I)V"⟩
abbrev cX7_isWord : ByteArray := prog_9_method_15_code
def yX7_isWord : MethodName := ⟨RX7, "isWord", "(Ljava/lang/String;)Z"⟩
abbrev cX7_took : ByteArray := prog_9_method_16_code
def yX7_took : MethodName := ⟨RX7, "took", "(Ljava/lang/String;)Z"⟩
abbrev cX7_number : ByteArray := prog_9_method_17_code
def yX7_number : MethodName := ⟨RX7, "number", "(II)I"⟩
abbrev cX7_ruleTold : ByteArray := prog_9_method_18_code
def yX7_ruleTold : MethodName := ⟨RX7, "ruleTold", "()I"⟩
abbrev cX7_readMember : ByteArray := prog_9_method_19_code
def yX7_readMember : MethodName := ⟨RX7, "readMember", "()V"⟩
abbrev cX7_readLine : ByteArray := prog_9_method_20_code
def yX7_readLine : MethodName := ⟨RX7, "readLine", "()V"⟩
abbrev cX7_club : ByteArray := prog_9_method_21_code
def yX7_club : MethodName := ⟨RX7, "club", "(I)I"⟩
abbrev cX7_fault : ByteArray := prog_9_method_22_code
def yX7_fault : MethodName := ⟨RX7, "fault", "(I)I"⟩
abbrev cX7_many : ByteArray := prog_9_method_23_code
def yX7_many : MethodName := ⟨RX7, "many", "()I"⟩
abbrev cX7_all : ByteArray := prog_9_method_24_code
def yX7_all : MethodName := ⟨RX7, "all", "()I"⟩
abbrev cX7_isMember : ByteArray := prog_9_method_25_code
def yX7_isMember : MethodName := ⟨RX7, "isMember", "(I)Z"⟩
abbrev cX7_isSet : ByteArray := prog_9_method_26_code
def yX7_isSet : MethodName := ⟨RX7, "isSet", "(I)Z"⟩
abbrev cX7_of : ByteArray := prog_9_method_27_code
def yX7_of : MethodName := ⟨RX7, "of", "(II)I"⟩
abbrev cX7_meets : ByteArray := prog_9_method_28_code
def yX7_meets : MethodName := ⟨RX7, "meets", "(I)Z"⟩
abbrev cX7_payOf : ByteArray := prog_9_method_29_code
def yX7_payOf : MethodName := ⟨RX7, "payOf", "(II)I"⟩
abbrev cX7_member : ByteArray := prog_9_method_30_code
def yX7_member : MethodName := ⟨RX7, "member", "(II)I"⟩
abbrev cX7_quota : ByteArray := prog_9_method_31_code
def yX7_quota : MethodName := ⟨RX7, "quota", "(I)I"⟩
abbrev cX7_lays : ByteArray := prog_9_method_32_code
def yX7_lays : MethodName := ⟨RX7, "lays", "()V"⟩
abbrev cX7_goesOn : ByteArray := prog_9_method_33_code
def yX7_goesOn : MethodName := ⟨RX7, "goesOn", "()I"⟩
abbrev cX7_learns : ByteArray := prog_9_method_34_code
def yX7_learns : MethodName := ⟨RX7, "learns", "(I)Z"⟩
abbrev cX7_last : ByteArray := prog_9_method_35_code
def yX7_last : MethodName := ⟨RX7, "last", "()I"⟩
abbrev cX7_thoughts : ByteArray := prog_9_method_36_code
def yX7_thoughts : MethodName := ⟨RX7, "thoughts", "(II)I"⟩
abbrev cX7_draw : ByteArray := prog_9_method_37_code
def yX7_draw : MethodName := ⟨RX7, "draw", "(I)I"⟩
abbrev cX7_seen : ByteArray := prog_9_method_38_code
def yX7_seen : MethodName := ⟨RX7, "seen", "(IIZ)I"⟩
abbrev cX7_comes : ByteArray := prog_9_method_39_code
def yX7_comes : MethodName := ⟨RX7, "comes", "(IIIIZ)Z"⟩
abbrev cX7_goes : ByteArray := prog_9_method_40_code
def yX7_goes : MethodName := ⟨RX7, "goes", "(IIZ)I"⟩
abbrev cX7_goesBy : ByteArray := prog_9_method_41_code
def yX7_goesBy : MethodName := ⟨RX7, "goesBy", "(I)V"⟩
abbrev cX7_week : ByteArray := prog_9_method_42_code
def yX7_week : MethodName := ⟨RX7, "week", "(I)I"⟩
abbrev cX7_told : ByteArray := prog_9_method_43_code
def yX7_told : MethodName := ⟨RX7, "told", "(I)Z"⟩
abbrev cX7_back : ByteArray := prog_9_method_44_code
def yX7_back : MethodName := ⟨RX7, "back", "(I)I"⟩
abbrev cX7_isWeek : ByteArray := prog_9_method_45_code
def yX7_isWeek : MethodName := ⟨RX7, "isWeek", "(I)Z"⟩
abbrev cX7_came : ByteArray := prog_9_method_46_code
def yX7_came : MethodName := ⟨RX7, "came", "(I)I"⟩
abbrev cX7_met : ByteArray := prog_9_method_47_code
def yX7_met : MethodName := ⟨RX7, "met", "(I)Z"⟩
abbrev cX7_next : ByteArray := prog_9_method_48_code
def yX7_next : MethodName := ⟨RX7, "next", "()I"⟩
abbrev cX7_hats : ByteArray := prog_9_method_49_code
def yX7_hats : MethodName := ⟨RX7, "hats", "(I)I"⟩
abbrev cX7_thought : ByteArray := prog_9_method_50_code
def yX7_thought : MethodName := ⟨RX7, "thought", "(II)Z"⟩
abbrev cX7_settled : ByteArray := prog_9_method_51_code
def yX7_settled : MethodName := ⟨RX7, "settled", "()I"⟩
abbrev cX7_trayFault : ByteArray := prog_9_method_52_code
def yX7_trayFault : MethodName := ⟨RX7, "trayFault", "(I)I"⟩
abbrev cX7_judge : ByteArray := prog_9_method_53_code
def yX7_judge : MethodName := ⟨RX7, "judge", "(II)I"⟩
abbrev cX7_gainOf : ByteArray := prog_9_method_54_code
def yX7_gainOf : MethodName := ⟨RX7, "gainOf", "(II)I"⟩
abbrev cX7_firstToGain : ByteArray := prog_9_method_55_code
def yX7_firstToGain : MethodName := ⟨RX7, "firstToGain", "(I)I"⟩
abbrev cX7_payAll : ByteArray := prog_9_method_56_code
def yX7_payAll : MethodName := ⟨RX7, "payAll", "(I)I"⟩
abbrev cX7_gain : ByteArray := prog_9_method_57_code
def yX7_gain : MethodName := ⟨RX7, "gain", "(II)I"⟩
abbrev cX7_rests : ByteArray := prog_9_method_58_code
def yX7_rests : MethodName := ⟨RX7, "rests", "(I)Z"⟩
abbrev cX7_rest : ByteArray := prog_9_method_59_code
def yX7_rest : MethodName := ⟨RX7, "rest", "(I)I"⟩
abbrev cX7_isStrong : ByteArray := prog_9_method_60_code
def yX7_isStrong : MethodName := ⟨RX7, "isStrong", "(I)Z"⟩
abbrev cX7_strong : ByteArray := prog_9_method_61_code
def yX7_strong : MethodName := ⟨RX7, "strong", "(I)Z"⟩
abbrev cX7_strongs : ByteArray := prog_9_method_62_code
def yX7_strongs : MethodName := ⟨RX7, "strongs", "(I)I"⟩
abbrev cX7_wants : ByteArray := prog_9_method_63_code
def yX7_wants : MethodName := ⟨RX7, "wants", "(II)Z"⟩
abbrev cX7_byTurns : ByteArray := prog_9_method_64_code
def yX7_byTurns : MethodName := ⟨RX7, "byTurns", "()I"⟩
abbrev cX7_inTurn : ByteArray := prog_9_method_65_code
def yX7_inTurn : MethodName := ⟨RX7, "inTurn", "()I"⟩
abbrev cX7_turnsBy : ByteArray := prog_9_method_66_code
def yX7_turnsBy : MethodName := ⟨RX7, "turnsBy", "(II)I"⟩
abbrev cX7_payOfTwo : ByteArray := prog_9_method_67_code
def yX7_payOfTwo : MethodName := ⟨RX7, "payOfTwo", "(IIII)I"⟩
abbrev cX7_restsInTwo : ByteArray := prog_9_method_68_code
def yX7_restsInTwo : MethodName := ⟨RX7, "restsInTwo", "(III)Z"⟩
abbrev cX7_two : ByteArray := prog_9_method_69_code
def yX7_two : MethodName := ⟨RX7, "two", "(III)I"⟩
abbrev cX7_bestRest : ByteArray := prog_9_method_70_code
def yX7_bestRest : MethodName := ⟨RX7, "bestRest", "()I"⟩
abbrev cX7_pay : ByteArray := prog_9_method_71_code
def yX7_pay : MethodName := ⟨RX7, "pay", "(I)I"⟩
abbrev cX7_pivots : ByteArray := prog_9_method_72_code
def yX7_pivots : MethodName := ⟨RX7, "pivots", "(I)I"⟩
abbrev cX7_replies : ByteArray := prog_9_method_73_code
def yX7_replies : MethodName := ⟨RX7, "replies", "(II)I"⟩
abbrev cX7_bribeOf : ByteArray := prog_9_method_74_code
def yX7_bribeOf : MethodName := ⟨RX7, "bribeOf", "(I)I"⟩
abbrev cX7_bribe : ByteArray := prog_9_method_75_code
def yX7_bribe : MethodName := ⟨RX7, "bribe", "(I)I"⟩
abbrev cX7_costOf : ByteArray := prog_9_method_76_code
def yX7_costOf : MethodName := ⟨RX7, "costOf", "(I)I"⟩
abbrev cX7_leastSet : ByteArray := prog_9_method_77_code
def yX7_leastSet : MethodName := ⟨RX7, "leastSet", "(Z)I"⟩
abbrev cX7_leastBribe : ByteArray := prog_9_method_78_code
def yX7_leastBribe : MethodName := ⟨RX7, "leastBribe", "(I)I"⟩
abbrev cX7_contract : ByteArray := prog_9_method_79_code
def yX7_contract : MethodName := ⟨RX7, "contract", "(I)I"⟩
abbrev cX7_waysBegin : ByteArray := prog_9_method_80_code
def yX7_waysBegin : MethodName := ⟨RX7, "waysBegin", "()V"⟩
abbrev cX7_waysGo : ByteArray := prog_9_method_81_code
def yX7_waysGo : MethodName := ⟨RX7, "waysGo", "(JJ)V"⟩
abbrev cX7_waysOf : ByteArray := prog_9_method_82_code
def yX7_waysOf : MethodName := ⟨RX7, "waysOf", "(IIII)J"⟩
abbrev cX7_odds : ByteArray := prog_9_method_83_code
def yX7_odds : MethodName := ⟨RX7, "odds", "(III)J"⟩
abbrev cX7_bestOdds : ByteArray := prog_9_method_84_code
def yX7_bestOdds : MethodName := ⟨RX7, "bestOdds", "(I)I"⟩
abbrev cX7_chances : ByteArray := prog_9_method_85_code
def yX7_chances : MethodName := ⟨RX7, "chances", "(III)J"⟩
abbrev cX7_hope : ByteArray := prog_9_method_86_code
def yX7_hope : MethodName := ⟨RX7, "hope", "(IIII)J"⟩
abbrev cX7_metAhead : ByteArray := prog_9_method_87_code
def yX7_metAhead : MethodName := ⟨RX7, "metAhead", "(I)I"⟩
abbrev cX7_ahead : ByteArray := prog_9_method_88_code
def yX7_ahead : MethodName := ⟨RX7, "ahead", "(II)I"⟩
abbrev cX7_common : ByteArray := prog_9_method_89_code
def yX7_common : MethodName := ⟨RX7, "common", "(II)I"⟩
abbrev cX7_rhythm : ByteArray := prog_9_method_90_code
def yX7_rhythm : MethodName := ⟨RX7, "rhythm", "()I"⟩
abbrev cX7_ring : ByteArray := prog_9_method_91_code
def yX7_ring : MethodName := ⟨RX7, "ring", "(I)I"⟩
abbrev cX7_worth : ByteArray := prog_9_method_92_code
def yX7_worth : MethodName := ⟨RX7, "worth", "(II)I"⟩
abbrev cX7_bestQuota : ByteArray := prog_9_method_93_code
def yX7_bestQuota : MethodName := ⟨RX7, "bestQuota", "(I)I"⟩
abbrev cX7_isRuled : ByteArray := prog_9_method_94_code
def yX7_isRuled : MethodName := ⟨RX7, "isRuled", "(II)Z"⟩
abbrev cX7_bestRule : ByteArray := prog_9_method_95_code
def yX7_bestRule : MethodName := ⟨RX7, "bestRule", "(III)I"⟩
abbrev cX7_streak : ByteArray := prog_9_method_96_code
def yX7_streak : MethodName := ⟨RX7, "streak", "(I)I"⟩
abbrev cX7_tally : ByteArray := prog_9_method_97_code
def yX7_tally : MethodName := ⟨RX7, "tally", "(I)I"⟩
abbrev cX7_bothCame : ByteArray := prog_9_method_98_code
def yX7_bothCame : MethodName := ⟨RX7, "bothCame", "(II)I"⟩
abbrev cX7_together : ByteArray := prog_9_method_99_code
def yX7_together : MethodName := ⟨RX7, "together", "(II)I"⟩
abbrev cX7_friends : ByteArray := prog_9_method_100_code
def yX7_friends : MethodName := ⟨RX7, "friends", "()I"⟩
abbrev cX7_doubts : ByteArray := prog_9_method_101_code
def yX7_doubts : MethodName := ⟨RX7, "doubts", "(II)I"⟩
abbrev cX7_guessOf : ByteArray := prog_9_method_102_code
def yX7_guessOf : MethodName := ⟨RX7, "guessOf", "(II)I"⟩
abbrev cX7_cook : ByteArray := prog_9_method_103_code
def yX7_cook : MethodName := ⟨RX7, "cook", "(I)I"⟩
abbrev cX7_guess : ByteArray := prog_9_method_104_code
def yX7_guess : MethodName := ⟨RX7, "guess", "(I)I"⟩
abbrev cX7_isTray : ByteArray := prog_9_method_105_code
def yX7_isTray : MethodName := ⟨RX7, "isTray", "(I)Z"⟩
abbrev cX7_tray : ByteArray := prog_9_method_106_code
def yX7_tray : MethodName := ⟨RX7, "tray", "(III)V"⟩
abbrev cX7_cut : ByteArray := prog_9_method_107_code
def yX7_cut : MethodName := ⟨RX7, "cut", "(IIJ)J"⟩
abbrev cX7_write : ByteArray := prog_9_method_108_code
def yX7_write : MethodName := ⟨RX7, "write", "(IIJ)J"⟩
abbrev cX7_pour : ByteArray := prog_9_method_109_code
def yX7_pour : MethodName := ⟨RX7, "pour", "(I)I"⟩
abbrev cX7_image : ByteArray := prog_9_method_110_code
def yX7_image : MethodName := ⟨RX7, "image", "(I)V"⟩
abbrev cX7_restore : ByteArray := prog_9_method_111_code
def yX7_restore : MethodName := ⟨RX7, "restore", "(I)V"⟩
abbrev cX7_count : ByteArray := prog_9_method_112_code
def yX7_count : MethodName := ⟨RX7, "count", "(I)I"⟩
def RJx145de : String := "java/io/Serializable"
def TJx145de : u_T := fun k => match k with
  | _ => ("", "", "", false)
def tyJx145de : Nat → FieldType := fun k => match k with
  | _ => .int
abbrev wsJx145de0 : List Cond := u_ws RJx145de TJx145de 0
theorem nmJx145de : ∀ a, a < 0 → ∀ b, b < 0 → a ≠ b → (TJx145de a).2.1 ≠ (TJx145de b).2.1 := by decide +kernel
theorem tyJx145de_ok : ∀ k, k < 0 → parseFieldDescriptor (TJx145de k).2.2.1 = some (tyJx145de k) := by decide +kernel
def RJx9f9b0 : String := "java/lang/CharSequence"
def TJx9f9b0 : u_T := fun k => match k with
  | _ => ("", "", "", false)
def tyJx9f9b0 : Nat → FieldType := fun k => match k with
  | _ => .int
abbrev wsJx9f9b00 : List Cond := u_ws RJx9f9b0 TJx9f9b0 0
theorem nmJx9f9b0 : ∀ a, a < 0 → ∀ b, b < 0 → a ≠ b → (TJx9f9b0 a).2.1 ≠ (TJx9f9b0 b).2.1 := by decide +kernel
theorem tyJx9f9b0_ok : ∀ k, k < 0 → parseFieldDescriptor (TJx9f9b0 k).2.2.1 = some (tyJx9f9b0 k) := by decide +kernel
def RJxb160c : String := "java/lang/Comparable"
def TJxb160c : u_T := fun k => match k with
  | _ => ("", "", "", false)
def tyJxb160c : Nat → FieldType := fun k => match k with
  | _ => .int
abbrev wsJxb160c0 : List Cond := u_ws RJxb160c TJxb160c 0
theorem nmJxb160c : ∀ a, a < 0 → ∀ b, b < 0 → a ≠ b → (TJxb160c a).2.1 ≠ (TJxb160c b).2.1 := by decide +kernel
theorem tyJxb160c_ok : ∀ k, k < 0 → parseFieldDescriptor (TJxb160c k).2.2.1 = some (tyJxb160c k) := by decide +kernel
def RJ6 : String := "java/lang/Integer"
def TJ6 : u_T := fun k => match k with
  | _ => ("", "", "", false)
def tyJ6 : Nat → FieldType := fun k => match k with
  | _ => .int
abbrev wsJ60 : List Cond := u_ws RJ6 TJ6 0
theorem nmJ6 : ∀ a, a < 0 → ∀ b, b < 0 → a ≠ b → (TJ6 a).2.1 ≠ (TJ6 b).2.1 := by decide +kernel
theorem tyJ6_ok : ∀ k, k < 0 → parseFieldDescriptor (TJ6 k).2.2.1 = some (tyJ6 k) := by decide +kernel
abbrev cJ6_bitCount_0f7a4 : ByteArray := prog_17_method_49_code
def yJ6_bitCount_0f7a4 : MethodName := ⟨RJ6, "bitCount", "(I)I"⟩
def RJ9 : String := "java/lang/Math"
def TJ9 : u_T := fun k => match k with
  | _ => ("", "", "", false)
def tyJ9 : Nat → FieldType := fun k => match k with
  | _ => .int
abbrev wsJ90 : List Cond := u_ws RJ9 TJ9 0
theorem nmJ9 : ∀ a, a < 0 → ∀ b, b < 0 → a ≠ b → (TJ9 a).2.1 ≠ (TJ9 b).2.1 := by decide +kernel
theorem tyJ9_ok : ∀ k, k < 0 → parseFieldDescriptor (TJ9 k).2.2.1 = some (tyJ9 k) := by decide +kernel
abbrev cJ9_floorDiv_f86c9 : ByteArray := prog_18_method_49_code
def yJ9_floorDiv_f86c9 : MethodName := ⟨RJ9, "floorDiv", "(JJ)J"⟩
abbrev cJ9_floorMod_f86c9 : ByteArray := prog_18_method_52_code
def yJ9_floorMod_f86c9 : MethodName := ⟨RJ9, "floorMod", "(JJ)J"⟩
abbrev cJ9_abs_0f7a4 : ByteArray := prog_18_method_59_code
def yJ9_abs_0f7a4 : MethodName := ⟨RJ9, "abs", "(I)I"⟩
abbrev cJ9_max_7cf53 : ByteArray := prog_18_method_65_code
def yJ9_max_7cf53 : MethodName := ⟨RJ9, "max", "(II)I"⟩
abbrev cJ9_max_f86c9 : ByteArray := prog_18_method_66_code
def yJ9_max_f86c9 : MethodName := ⟨RJ9, "max", "(JJ)J"⟩
abbrev cJ9_min_7cf53 : ByteArray := prog_18_method_69_code
def yJ9_min_7cf53 : MethodName := ⟨RJ9, "min", "(II)I"⟩
def RJ0 : String := "java/lang/String"
def TJ0 : u_T := fun k => match k with
  | _ => ("", "", "", false)
def tyJ0 : Nat → FieldType := fun k => match k with
  | _ => .int
abbrev wsJ00 : List Cond := u_ws RJ0 TJ0 0
theorem nmJ0 : ∀ a, a < 0 → ∀ b, b < 0 → a ≠ b → (TJ0 a).2.1 ≠ (TJ0 b).2.1 := by decide +kernel
theorem tyJ0_ok : ∀ k, k < 0 → parseFieldDescriptor (TJ0 k).2.2.1 = some (tyJ0 k) := by decide +kernel
abbrev cJ0_length_8abf5 : ByteArray := prog_20_method_54_code
def yJ0_length_8abf5 : MethodName := ⟨RJ0, "length", "()I"⟩
abbrev cJ0_charAt_5068e : ByteArray := prog_20_method_56_code
def yJ0_charAt_5068e : MethodName := ⟨RJ0, "charAt", "(I)C"⟩
abbrev cJ0_coder_7d493 : ByteArray := prog_20_method_152_code
def yJ0_coder_7d493 : MethodName := ⟨RJ0, "coder", "()B"⟩
abbrev cJ0_isLatin1_aae02 : ByteArray := prog_20_method_154_code
def yJ0_isLatin1_aae02 : MethodName := ⟨RJ0, "isLatin1", "()Z"⟩
abbrev cJ0_checkIndex_df160 : ByteArray := prog_20_method_155_code
def yJ0_checkIndex_df160 : MethodName := ⟨RJ0, "checkIndex", "(II)V"⟩
def RJ1 : String := "java/lang/StringLatin1"
def TJ1 : u_T := fun k => match k with
  | _ => ("", "", "", false)
def tyJ1 : Nat → FieldType := fun k => match k with
  | _ => .int
abbrev wsJ10 : List Cond := u_ws RJ1 TJ1 0
theorem nmJ1 : ∀ a, a < 0 → ∀ b, b < 0 → a ≠ b → (TJ1 a).2.1 ≠ (TJ1 b).2.1 := by decide +kernel
theorem tyJ1_ok : ∀ k, k < 0 → parseFieldDescriptor (TJ1 k).2.2.1 = some (tyJ1 k) := by decide +kernel
abbrev cJ1_charAt_3b067 : ByteArray := prog_21_method_2_code
def yJ1_charAt_3b067 : MethodName := ⟨RJ1, "charAt", "([BI)C"⟩
def RJ2 : String := "java/lang/StringUTF16"
def TJ2 : u_T := fun k => match k with
  | _ => ("", "", "", false)
def tyJ2 : Nat → FieldType := fun k => match k with
  | _ => .int
abbrev wsJ20 : List Cond := u_ws RJ2 TJ2 0
theorem nmJ2 : ∀ a, a < 0 → ∀ b, b < 0 → a ≠ b → (TJ2 a).2.1 ≠ (TJ2 b).2.1 := by decide +kernel
theorem tyJ2_ok : ∀ k, k < 0 → parseFieldDescriptor (TJ2 k).2.2.1 = some (tyJ2 k) := by decide +kernel
abbrev cJ2_getChar_3b067 : ByteArray := prog_22_method_5_code
def yJ2_getChar_3b067 : MethodName := ⟨RJ2, "getChar", "([BI)C"⟩
abbrev cJ2_length_9d52b : ByteArray := prog_22_method_6_code
def yJ2_length_9d52b : MethodName := ⟨RJ2, "length", "([B)I"⟩
abbrev cJ2_charAt_3b067 : ByteArray := prog_22_method_83_code
def yJ2_charAt_3b067 : MethodName := ⟨RJ2, "charAt", "([BI)C"⟩
abbrev cJ2_checkIndex_2214a : ByteArray := prog_22_method_91_code
def yJ2_checkIndex_2214a : MethodName := ⟨RJ2, "checkIndex", "(I[B)V"⟩
def RJ10 : String := "java/lang/System"
def TJ10 : u_T := fun k => match k with
  | _ => ("", "", "", false)
def tyJ10 : Nat → FieldType := fun k => match k with
  | _ => .int
abbrev wsJ100 : List Cond := u_ws RJ10 TJ10 0
theorem nmJ10 : ∀ a, a < 0 → ∀ b, b < 0 → a ≠ b → (TJ10 a).2.1 ≠ (TJ10 b).2.1 := by decide +kernel
theorem tyJ10_ok : ∀ k, k < 0 → parseFieldDescriptor (TJ10 k).2.2.1 = some (tyJ10 k) := by decide +kernel
def RJxfd54e : String := "java/lang/constant/Constable"
def TJxfd54e : u_T := fun k => match k with
  | _ => ("", "", "", false)
def tyJxfd54e : Nat → FieldType := fun k => match k with
  | _ => .int
abbrev wsJxfd54e0 : List Cond := u_ws RJxfd54e TJxfd54e 0
theorem nmJxfd54e : ∀ a, a < 0 → ∀ b, b < 0 → a ≠ b → (TJxfd54e a).2.1 ≠ (TJxfd54e b).2.1 := by decide +kernel
theorem tyJxfd54e_ok : ∀ k, k < 0 → parseFieldDescriptor (TJxfd54e k).2.2.1 = some (tyJxfd54e k) := by decide +kernel
def RJx3cf43 : String := "java/lang/constant/ConstantDesc"
def TJx3cf43 : u_T := fun k => match k with
  | _ => ("", "", "", false)
def tyJx3cf43 : Nat → FieldType := fun k => match k with
  | _ => .int
abbrev wsJx3cf430 : List Cond := u_ws RJx3cf43 TJx3cf43 0
theorem nmJx3cf43 : ∀ a, a < 0 → ∀ b, b < 0 → a ≠ b → (TJx3cf43 a).2.1 ≠ (TJx3cf43 b).2.1 := by decide +kernel
theorem tyJx3cf43_ok : ∀ k, k < 0 → parseFieldDescriptor (TJx3cf43 k).2.2.1 = some (tyJx3cf43 k) := by decide +kernel
def RJ3 : String := "jdk/internal/util/Preconditions"
def TJ3 : u_T := fun k => match k with
  | _ => ("", "", "", false)
def tyJ3 : Nat → FieldType := fun k => match k with
  | _ => .int
abbrev wsJ30 : List Cond := u_ws RJ3 TJ3 0
theorem nmJ3 : ∀ a, a < 0 → ∀ b, b < 0 → a ≠ b → (TJ3 a).2.1 ≠ (TJ3 b).2.1 := by decide +kernel
theorem tyJ3_ok : ∀ k, k < 0 → parseFieldDescriptor (TJ3 k).2.2.1 = some (tyJ3 k) := by decide +kernel
abbrev cJ3_checkIndex_8e157 : ByteArray := prog_28_method_11_code
def yJ3_checkIndex_8e157 : MethodName := ⟨RJ3, "checkIndex", "(IILjava/util/function/BiFunction;)I"⟩
def RL : String := "NobodysTuesdayLaw"
abbrev cL_club : ByteArray := method_3_code
def yL_club : MethodName := ⟨RL, "club", "(LNobodysTuesday;I[J)I"⟩
abbrev cL_member : ByteArray := method_4_code
def yL_member : MethodName := ⟨RL, "member", "(LNobodysTuesday;II[J)I"⟩
abbrev cL_quota : ByteArray := method_5_code
def yL_quota : MethodName := ⟨RL, "quota", "(LNobodysTuesday;I[J)I"⟩
abbrev cL_week : ByteArray := method_6_code
def yL_week : MethodName := ⟨RL, "week", "(LNobodysTuesday;I[J)I"⟩
abbrev cL_told : ByteArray := method_7_code
def yL_told : MethodName := ⟨RL, "told", "(LNobodysTuesday;I[J)I"⟩
abbrev cL_back : ByteArray := method_8_code
def yL_back : MethodName := ⟨RL, "back", "(LNobodysTuesday;I[J)I"⟩
abbrev cL_came : ByteArray := method_9_code
def yL_came : MethodName := ⟨RL, "came", "(LNobodysTuesday;I[J)I"⟩
abbrev cL_met : ByteArray := method_10_code
def yL_met : MethodName := ⟨RL, "met", "(LNobodysTuesday;I[J)I"⟩
abbrev cL_hats : ByteArray := method_11_code
def yL_hats : MethodName := ⟨RL, "hats", "(LNobodysTuesday;I[J)I"⟩
abbrev cL_thought : ByteArray := method_12_code
def yL_thought : MethodName := ⟨RL, "thought", "(LNobodysTuesday;II[J)I"⟩
abbrev cL_judge : ByteArray := method_13_code
def yL_judge : MethodName := ⟨RL, "judge", "(LNobodysTuesday;II[J)I"⟩
abbrev cL_gain : ByteArray := method_14_code
def yL_gain : MethodName := ⟨RL, "gain", "(LNobodysTuesday;II[J)I"⟩
abbrev cL_rests : ByteArray := method_15_code
def yL_rests : MethodName := ⟨RL, "rests", "(LNobodysTuesday;I[J)I"⟩
abbrev cL_strong : ByteArray := method_16_code
def yL_strong : MethodName := ⟨RL, "strong", "(LNobodysTuesday;I[J)I"⟩
abbrev cL_turnsBy : ByteArray := method_17_code
def yL_turnsBy : MethodName := ⟨RL, "turnsBy", "(LNobodysTuesday;II[J)I"⟩
abbrev cL_two : ByteArray := method_18_code
def yL_two : MethodName := ⟨RL, "two", "(LNobodysTuesday;III[J)I"⟩
abbrev cL_pay : ByteArray := method_19_code
def yL_pay : MethodName := ⟨RL, "pay", "(LNobodysTuesday;I[J)I"⟩
abbrev cL_pivots : ByteArray := method_20_code
def yL_pivots : MethodName := ⟨RL, "pivots", "(LNobodysTuesday;I[J)I"⟩
abbrev cL_replies : ByteArray := method_21_code
def yL_replies : MethodName := ⟨RL, "replies", "(LNobodysTuesday;II[J)I"⟩
abbrev cL_bribe : ByteArray := method_22_code
def yL_bribe : MethodName := ⟨RL, "bribe", "(LNobodysTuesday;I[J)I"⟩
abbrev cL_leastBribe : ByteArray := method_23_code
def yL_leastBribe : MethodName := ⟨RL, "leastBribe", "(LNobodysTuesday;I[J)I"⟩
abbrev cL_contract : ByteArray := method_24_code
def yL_contract : MethodName := ⟨RL, "contract", "(LNobodysTuesday;I[J)I"⟩
abbrev cL_odds : ByteArray := method_25_code
def yL_odds : MethodName := ⟨RL, "odds", "(LNobodysTuesday;III[J)I"⟩
abbrev cL_bestOdds : ByteArray := method_26_code
def yL_bestOdds : MethodName := ⟨RL, "bestOdds", "(LNobodysTuesday;I[J)I"⟩
abbrev cL_chances : ByteArray := method_27_code
def yL_chances : MethodName := ⟨RL, "chances", "(LNobodysTuesday;III[J)I"⟩
abbrev cL_hope : ByteArray := method_28_code
def yL_hope : MethodName := ⟨RL, "hope", "(LNobodysTuesday;IIII[J)I"⟩
abbrev cL_ahead : ByteArray := method_29_code
def yL_ahead : MethodName := ⟨RL, "ahead", "(LNobodysTuesday;II[J)I"⟩
abbrev cL_ring : ByteArray := method_30_code
def yL_ring : MethodName := ⟨RL, "ring", "(LNobodysTuesday;I[J)I"⟩
abbrev cL_worth : ByteArray := method_31_code
def yL_worth : MethodName := ⟨RL, "worth", "(LNobodysTuesday;II[J)I"⟩
abbrev cL_bestQuota : ByteArray := method_32_code
def yL_bestQuota : MethodName := ⟨RL, "bestQuota", "(LNobodysTuesday;I[J)I"⟩
abbrev cL_bestRule : ByteArray := method_33_code
def yL_bestRule : MethodName := ⟨RL, "bestRule", "(LNobodysTuesday;III[J)I"⟩
abbrev cL_streak : ByteArray := method_34_code
def yL_streak : MethodName := ⟨RL, "streak", "(LNobodysTuesday;I[J)I"⟩
abbrev cL_together : ByteArray := method_35_code
def yL_together : MethodName := ⟨RL, "together", "(LNobodysTuesday;II[J)I"⟩
abbrev cL_doubts : ByteArray := method_36_code
def yL_doubts : MethodName := ⟨RL, "doubts", "(LNobodysTuesday;II[J)I"⟩
abbrev cL_cook : ByteArray := method_37_code
def yL_cook : MethodName := ⟨RL, "cook", "(LNobodysTuesday;I[J)I"⟩
abbrev cL_guess : ByteArray := method_38_code
def yL_guess : MethodName := ⟨RL, "guess", "(LNobodysTuesday;I[J)I"⟩
abbrev cL_tray : ByteArray := method_39_code
def yL_tray : MethodName := ⟨RL, "tray", "(LNobodysTuesday;III)I"⟩
abbrev cL_write : ByteArray := method_40_code
def yL_write : MethodName := ⟨RL, "write", "(LNobodysTuesday;IIJ[J)I"⟩
abbrev cL_pour : ByteArray := method_41_code
def yL_pour : MethodName := ⟨RL, "pour", "(LNobodysTuesday;I[J)I"⟩
abbrev cL_image : ByteArray := method_42_code
def yL_image : MethodName := ⟨RL, "image", "(LNobodysTuesday;I)I"⟩
abbrev cL_restore : ByteArray := method_43_code
def yL_restore : MethodName := ⟨RL, "restore", "(LNobodysTuesday;I)I"⟩
abbrev cL_law : ByteArray := code
def yL_law : MethodName := ⟨RL, "law", "([I)Z"⟩
abbrev vwCl : List vw_C := [(RX0, TX0, 14), (RX1, TX1, 6), (RX2, TX2, 9), (RX3, TX3, 4), (RX4, TX4, 2), (RX5, TX5, 6), (RX6, TX6, 12), (RX7, TX7, 28)]
end
section
/-! ===== the abstract machine: a predicate transformer over the printed code (abstract: indices renumbered by program, blocks by number) ===== -/
abbrev ac_C : Type := (Nat × vp_A) ⊕ (Nat × List Value)
abbrev ac_H : Type := Nat → Option ac_C
abbrev ac_O : Type := Option Value ⊕ Nat
abbrev ac_P : Type := ac_O → ac_H → Prop
abbrev ac_L : Type := List (Option Value)
abbrev ac_X : Type := ac_L → List Value → ac_H → Nat × Nat → Prop
abbrev ac_I : Type := List (Instr × Nat)
def hup (h : ac_H) (a : Nat) (c : ac_C) : ac_H := fun x => if x = a then some c else h x
def gI : ac_L → Nat → Option Value
  | [], _ => none
  | v :: _, 0 => v
  | _ :: l, n + 1 => gI l n
def sI : ac_L → Nat → Option Value → ac_L
  | [], _, _ => []
  | _ :: l, 0, x => x :: l
  | v :: l, n + 1, x => v :: sI l n x
def cat2 : Option Value → Bool
  | some (.long _) => true
  | some (.double _) => true
  | _ => false
/-- the place below i holds nothing of two slots -/
def low1 (ls : ac_L) : Nat → Bool
  | 0 => true
  | j + 1 => !(cat2 (gI ls j))
def popn : Nat → List Value → List Value → Option (List Value × List Value)
  | 0, st, as => some (as, st)
  | n + 1, v :: st, as => popn n st (v :: as)
  | _ + 1, [], _ => none
def kI (n : Int) : Int32 := Int32.ofInt n
def cI (c : ClassFile.Cond) (x y : Int32) : Prop := match c with
  | .eq => x = y
  | .ne => ¬ x = y
  | .lt => x < y
  | .ge => y ≤ x
  | .gt => y < x
  | .le => x ≤ y
/-- the fields of the eight classes, by number -/
def fty (k : Nat) : FieldType := match k / 32 with
  | 0 => tyX0 (k % 32)
  | 1 => tyX1 (k % 32)
  | 2 => tyX2 (k % 32)
  | 3 => tyX3 (k % 32)
  | 4 => tyX4 (k % 32)
  | 5 => tyX5 (k % 32)
  | 6 => tyX6 (k % 32)
  | _ => tyX7 (k % 32)
def gF (k : Nat) (h : ac_H) (a : Nat) : Option Value := match h a with
  | some (.inr (c, fs)) => if c = k / 32 then fs[k % 32]? else none
  | _ => none
def pF (k : Nat) (h : ac_H) (a : Nat) (v : Value) : Option ac_H := match h a with
  | some (.inr (c, fs)) => if c = k / 32 ∧ k % 32 < fs.length then some (hup h a (.inr (c, fs.set (k % 32) v))) else none
  | _ => none
def okF (k : Nat) (v : Value) : Prop := narrow (fty k) v = v ∧ fits (fty k) v = true
def dfl : FieldType → Value := defaultValue
def nfl : List Nat := [14, 6, 9, 4, 2, 6, 12, 28]
def dflt (c : Nat) : List Value := (List.range (nfl.getD c 0)).map (fun j => defaultValue (fty (32 * c + j)))
def isO (h : ac_H) (v : Option Value) (c : Nat) : Prop := match v with
  | some (.ref a) => ∃ fs, h a = some (.inr (c, fs))
  | _ => False
def nrw (rt : Option FieldType) (v : Int32) : Prop := match rt with
  | some ty => narrow ty (.int v) = .int v
  | none => False
def isR (rt : Option FieldType) : Prop := (∃ n, rt = some (.object n)) ∨ ∃ t, rt = some (.array t)
def aty : Nat → FieldType
  | 0 => .int
  | 1 => .long
  | 2 => .boolean
  | 3 => .byte
  | 4 => .array .int
  | 5 => .object RX3
  | _ => .object RX0
def leastN : List Int32 := [0, 0, 0, 0, 0, 0, 1, 0, 0, 0, 0]
def mostN : List Int32 := [0, 0, 0, 0, 12, 12, 12, 12, 12, 6, 0]
def tsel (x : Int32) (d lo hi : Int) (offs : Array Int) : Option Int := if x.toInt < lo ∨ hi < x.toInt then some d else offs[(x.toInt - lo).toNat]?
/-- a call's outcome: on with the answer, or thrown: caught here (the handler answers a constant), or on to the caller -/
def xK (Q : ac_P) (hands : List (Nat × Int)) (k : ac_X) (ls : ac_L) (rest : List Value) (bg : Nat × Nat) : ac_P
  | .inl none, h => k ls rest h bg
  | .inl (some v), h => k ls (v :: rest) h bg
  | .inr e, h => match hands.lookup e with
    | some c => Q (.inl (some (.int (kI c)))) h
    | none => Q (.inr e) h
def bgle (a b : Nat × Nat) : Prop := a.1 ≤ b.1 ∧ a.2 ≤ b.2
def bgad (a b : Nat × Nat) : Nat × Nat := (a.1 + b.1, a.2 + b.2)
def hgr (h : ac_H) (l : List Nat) (c : ac_C) : ac_H := fun x => if x ∈ l then some c else h x
section XB
variable (call : Nat → List Value → ac_H → ac_P → Prop) (cst : Nat → Nat × Nat) (ga : Nat → Nat) (L : Nat) (xs : Nat → Int32) (sl : Nat → List Int32) (mb : Nat × Nat) (hands : List (Nat × Int)) (rt : Option FieldType) (Q : ac_P) (J : Nat → ac_X)
def xB : ac_I → ac_X
  | [], _, _, _, _ => False
  | (i, _) :: is, ls, st, h, bg => match i with
    | .sipush n => xB is ls (.int (kI n) :: st) h bg
    | .ldc2_w n => xB is ls (.long (Int64.ofNat n) :: st) h bg
    | .ldc n => xB is ls (.ref (ga (3 + n)) :: st) h bg
    | .getstatic n => xB is ls (.ref (ga (1 + n)) :: st) h bg
    | .iload n => (match gI ls n with | some (.int x) => xB is ls (.int x :: st) h bg | _ => False)
    | .lload n => (match gI ls n with | some (.long x) => xB is ls (.long x :: st) h bg | _ => False)
    | .aload n => (match gI ls n with | some (.ref x) => xB is ls (.ref x :: st) h bg | _ => False)
    | .istore n => (match st with | .int x :: s => low1 ls n = true ∧ xB is (sI ls n (some (.int x))) s h bg | _ => False)
    | .astore n => (match st with | .ref x :: s => low1 ls n = true ∧ xB is (sI ls n (some (.ref x))) s h bg | _ => False)
    | .lstore n => (match st with | .long x :: s => low1 ls n = true ∧ xB is (sI (sI ls n (some (.long x))) (n + 1) none) s h bg | _ => False)
    | .iinc n k => (match gI ls n with | some (.int x) => low1 ls n = true ∧ xB is (sI ls n (some (.int (x + kI k)))) st h bg | _ => False)
    | .iadd => (match st with | .int y :: .int x :: s => xB is ls (.int (x + y) :: s) h bg | _ => False)
    | .isub => (match st with | .int y :: .int x :: s => xB is ls (.int (x - y) :: s) h bg | _ => False)
    | .imul => (match st with | .int y :: .int x :: s => xB is ls (.int (x * y) :: s) h bg | _ => False)
    | .iand => (match st with | .int y :: .int x :: s => xB is ls (.int (x &&& y) :: s) h bg | _ => False)
    | .ior => (match st with | .int y :: .int x :: s => xB is ls (.int (x ||| y) :: s) h bg | _ => False)
    | .ixor => (match st with | .int y :: .int x :: s => xB is ls (.int (x ^^^ y) :: s) h bg | _ => False)
    | .ishl => (match st with | .int y :: .int x :: s => xB is ls (.int (x <<< (y &&& 31)) :: s) h bg | _ => False)
    | .ishr => (match st with | .int y :: .int x :: s => xB is ls (.int (x >>> (y &&& 31)) :: s) h bg | _ => False)
    | .iushr => (match st with | .int y :: .int x :: s => xB is ls (.int ((x.toUInt32 >>> (y.toUInt32 &&& Int32.toUInt32 31)).toInt32) :: s) h bg | _ => False)
    | .idiv => (match st with | .int y :: .int x :: s => ¬ y = 0 ∧ xB is ls (.int (x / y) :: s) h bg | _ => False)
    | .irem => (match st with | .int y :: .int x :: s => ¬ y = 0 ∧ xB is ls (.int (x - x / y * y) :: s) h bg | _ => False)
    | .ineg => (match st with | .int x :: s => xB is ls (.int (-x) :: s) h bg | _ => False)
    | .ladd => (match st with | .long y :: .long x :: s => xB is ls (.long (x + y) :: s) h bg | _ => False)
    | .lsub => (match st with | .long y :: .long x :: s => xB is ls (.long (x - y) :: s) h bg | _ => False)
    | .lmul => (match st with | .long y :: .long x :: s => xB is ls (.long (x * y) :: s) h bg | _ => False)
    | .land => (match st with | .long y :: .long x :: s => xB is ls (.long (x &&& y) :: s) h bg | _ => False)
    | .lor => (match st with | .long y :: .long x :: s => xB is ls (.long (x ||| y) :: s) h bg | _ => False)
    | .lxor => (match st with | .long y :: .long x :: s => xB is ls (.long (x ^^^ y) :: s) h bg | _ => False)
    | .ldiv => (match st with | .long y :: .long x :: s => ¬ y = 0 ∧ xB is ls (.long (x / y) :: s) h bg | _ => False)
    | .lrem => (match st with | .long y :: .long x :: s => ¬ y = 0 ∧ xB is ls (.long (x - x / y * y) :: s) h bg | _ => False)
    | .lcmp => (match st with | .long y :: .long x :: s => xB is ls (.int (lg_cmp x y) :: s) h bg | _ => False)
    | .lshl => (match st with | .int y :: .long x :: s => xB is ls (.long (x <<< (y.toInt64 &&& 63)) :: s) h bg | _ => False)
    | .lshr => (match st with | .int y :: .long x :: s => xB is ls (.long (x >>> (y.toInt64 &&& 63)) :: s) h bg | _ => False)
    | .i2l => (match st with | .int x :: s => xB is ls (.long x.toInt64 :: s) h bg | _ => False)
    | .l2i => (match st with | .long x :: s => xB is ls (.int x.toInt32 :: s) h bg | _ => False)
    | .i2b => (match st with | .int x :: s => xB is ls (.int (x.toInt8.toInt32) :: s) h bg | _ => False)
    | .i2s => (match st with | .int x :: s => xB is ls (.int (x.toInt16.toInt32) :: s) h bg | _ => False)
    | .i2c => (match st with | .int x :: s => xB is ls (.int ((x.toUInt32 % 65536).toInt32) :: s) h bg | _ => False)
    | .dup => (match st with | .int x :: s => xB is ls (.int x :: .int x :: s) h bg | .ref x :: s => xB is ls (.ref x :: .ref x :: s) h bg | _ => False)
    | .pop => (match st with | .int x :: s => xB is ls s h bg | .ref x :: s => xB is ls s h bg | _ => False)
    | .pop2 => (match st with | .long x :: s => xB is ls s h bg | _ => False)
    | .dup2 => (match st with | .int y :: .ref x :: s => xB is ls (.int y :: .ref x :: .int y :: .ref x :: s) h bg | .long x :: s => xB is ls (.long x :: .long x :: s) h bg | _ => False)
    | .iaload => (match st with | .int i :: .ref a :: s => (match h a with | some (.inl (0, n, .inl f)) => vp_in i n ∧ xB is ls (.int (f i.toNatClampNeg) :: s) h bg | _ => False) | _ => False)
    | .laload => (match st with | .int i :: .ref a :: s => (match h a with | some (.inl (1, n, .inr (.inl f))) => vp_in i n ∧ xB is ls (.long (f i.toNatClampNeg) :: s) h bg | _ => False) | _ => False)
    | .baload => (match st with | .int i :: .ref a :: s => (match h a with | some (.inl (2, n, .inl f)) => vp_in i n ∧ xB is ls (.int (f i.toNatClampNeg) :: s) h bg | some (.inl (3, n, .inl f)) => vp_in i n ∧ xB is ls (.int (f i.toNatClampNeg) :: s) h bg | _ => False) | _ => False)
    | .aaload => (match st with | .int i :: .ref a :: s => (match h a with | some (.inl (t, n, .inr (.inr (.inr (.inr f))))) => (4 ≤ t ∧ t < 7) ∧ vp_in i n ∧ (match f i.toNatClampNeg with | some q => xB is ls (.ref q :: s) h bg | none => False) | _ => False) | _ => False)
    | .iastore => (match st with | .int x :: .int i :: .ref a :: s => (match h a with | some (.inl (0, n, .inl f)) => vp_in i n ∧ xB is ls s (hup h a (.inl (0, n, .inl (upd f i.toNatClampNeg x)))) bg | _ => False) | _ => False)
    | .lastore => (match st with | .long x :: .int i :: .ref a :: s => (match h a with | some (.inl (1, n, .inr (.inl f))) => vp_in i n ∧ xB is ls s (hup h a (.inl (1, n, .inr (.inl (vp_updL f i.toNatClampNeg x))))) bg | _ => False) | _ => False)
    | .bastore => (match st with | .int x :: .int i :: .ref a :: s => (match h a with | some (.inl (2, n, .inl f)) => vp_in i n ∧ xB is ls s (hup h a (.inl (2, n, .inl (upd f i.toNatClampNeg (vp_nar .boolean x))))) bg | some (.inl (3, n, .inl f)) => vp_in i n ∧ xB is ls s (hup h a (.inl (3, n, .inl (upd f i.toNatClampNeg (vp_nar .byte x))))) bg | _ => False) | _ => False)
    | .aastore => (match st with | .ref v :: .int i :: .ref a :: s => (match h a with | some (.inl (t, n, .inr (.inr (.inr (.inr f))))) => ((t = 5 ∧ isO h (some (.ref v)) 3) ∨ (t = 6 ∧ isO h (some (.ref v)) 0)) ∧ vp_in i n ∧ xB is ls s (hup h a (.inl (t, n, .inr (.inr (.inr (.inr (va_up f i.toNatClampNeg (some v)))))))) bg | _ => False) | _ => False)
    | .arraylength => (match st with | .ref a :: s => (match h a with | some (.inl (t, x)) => t < 7 ∧ xB is ls (.int (Int32.ofNat x.1) :: s) h bg | _ => False) | _ => False)
    | .faload => (match st with | .int i :: .ref a :: s => a = ga 0 ∧ vp_in i L ∧ xB is ls (.int (xs i.toNatClampNeg) :: s) h bg | _ => False)
    | .caload => (match st with | .ref a :: s => a = ga 0 ∧ xB is ls (.int (Int32.ofNat L) :: s) h bg | _ => False)
    | .daload => (match st with | .int i :: .ref a :: s => a = ga 1 ∧ vp_in i 11 ∧ xB is ls (.int (leastN.getD i.toNatClampNeg 0) :: s) h bg | _ => False)
    | .saload => (match st with | .int i :: .ref a :: s => a = ga 2 ∧ vp_in i 11 ∧ xB is ls (.int (mostN.getD i.toNatClampNeg 0) :: s) h bg | _ => False)
    | .invokedynamic w => (match w, st with | 0, .ref a :: s => ∃ t, t < 17 ∧ a = ga (3 + t) ∧ s.length ≤ 4 ∧ xB is ls (.int (Int32.ofNat (sl t).length) :: s) h bg | 1, .int i :: .ref a :: s => ∃ t, t < 17 ∧ a = ga (3 + t) ∧ vp_in i (sl t).length ∧ s.length ≤ 4 ∧ xB is ls (.int ((sl t).getD i.toNatClampNeg 0) :: s) h bg | _, _ => False)
    | .getfield k => (match st with | .ref a :: s => (match gF k h a with | some v => xB is ls (v :: s) h bg | none => False) | _ => False)
    | .putfield k => (match st with | v :: .ref a :: s => okF k v ∧ (match pF k h a v with | some h1 => xB is ls s h1 bg | none => False) | _ => False)
    | .new k => bgle (bgad bg (1, nfl.getD k 0)) mb ∧ ∀ q, h q = none → xB is ls (.ref q :: st) (hup h q (.inr (k, dflt k))) (bgad bg (1, nfl.getD k 0))
    | .newarray ty => (match st with
      | .int n :: s => ¬ n < 0 ∧ n.toNatClampNeg ≤ 100000 ∧ bgle (bgad bg (1, n.toNatClampNeg)) mb ∧ ∀ q, h q = none → (match ty with
        | .int => xB is ls (.ref q :: s) (hup h q (.inl (0, n.toNatClampNeg, .inl (fun _ => 0)))) (bgad bg (1, n.toNatClampNeg))
        | .long => xB is ls (.ref q :: s) (hup h q (.inl (1, n.toNatClampNeg, .inr (.inl (fun _ => 0))))) (bgad bg (1, n.toNatClampNeg))
        | .boolean => xB is ls (.ref q :: s) (hup h q (.inl (2, n.toNatClampNeg, .inl (fun _ => 0)))) (bgad bg (1, n.toNatClampNeg))
        | .byte => xB is ls (.ref q :: s) (hup h q (.inl (3, n.toNatClampNeg, .inl (fun _ => 0)))) (bgad bg (1, n.toNatClampNeg))
        | _ => False)
      | _ => False)
    | .anewarray t => (match st with | .int n :: s => (t = 5 ∨ t = 6) ∧ ¬ n < 0 ∧ n.toNatClampNeg ≤ 100000 ∧ bgle (bgad bg (1, n.toNatClampNeg)) mb ∧ ∀ q, h q = none → xB is ls (.ref q :: s) (hup h q (.inl (t, n.toNatClampNeg, .inr (.inr (.inr (.inr (fun _ => none))))))) (bgad bg (1, n.toNatClampNeg)) | _ => False)
    | .swap => (match st with | .int k :: .int n :: s => ¬ n < 0 ∧ ¬ k < 0 ∧ n.toNatClampNeg ≤ 1000 ∧ k.toNatClampNeg ≤ 1000 ∧ bgle (bgad bg (1 + n.toNatClampNeg, n.toNatClampNeg + n.toNatClampNeg * k.toNatClampNeg)) mb ∧ ∀ (q : Nat) (r : Nat → Nat), h q = none → (∀ i, i < n.toNatClampNeg → h (r i) = none ∧ r i ≠ q) → (∀ i j, i < n.toNatClampNeg → j < n.toNatClampNeg → r i = r j → i = j) → xB is ls (.ref q :: s) (hup (hgr h ((List.range n.toNatClampNeg).map r) (.inl (0, k.toNatClampNeg, .inl (fun _ => 0)))) q (.inl (4, n.toNatClampNeg, .inr (.inr (.inr (.inr (fun i => if i < n.toNatClampNeg then some (r i) else none))))))) (bgad bg (1 + n.toNatClampNeg, n.toNatClampNeg + n.toNatClampNeg * k.toNatClampNeg)) | _ => False)
    | .monitorexit => (match st with | .ref a :: s => s.length ≤ 4 ∧ xB is ls s h bg | _ => False)
    | .monitorenter => (match st with | .int n :: .int dp :: .ref b :: .int sp :: .ref a :: s => (match h a, h b with | some (.inl (0, n0, .inl f)), some (.inl (0, n1, .inl g)) => s.length ≤ 4 ∧ ¬ sp < 0 ∧ ¬ dp < 0 ∧ ¬ n < 0 ∧ sp.toNatClampNeg + n.toNatClampNeg ≤ n0 ∧ dp.toNatClampNeg + n.toNatClampNeg ≤ n1 ∧ xB is ls s (hup h b (.inl (0, n1, .inl (va_cpy f g sp.toNatClampNeg dp.toNatClampNeg n.toNatClampNeg)))) bg | _, _ => False) | _ => False)
    | .instanceof k => bgle (bgad bg (1, 6)) mb ∧ st.length ≤ 4 ∧ k < 4 ∧ Q (.inr k) h
    | .multianewarray k d => (match popn (d / 16) st [] with | some (as, s) => s.length ≤ 4 ∧ isO h as.head? (d % 16) ∧ call k as h (xK Q hands (xB is) ls s bg) | none => False)
    | .invokeinterface k d => (match popn d st [] with | some (as, s) => s.length ≤ 4 ∧ call k as h (xK Q hands (xB is) ls s bg) | none => False)
    | .putstatic k => (match popn (k / 16 % 16) st [] with | some (as, s) => s.length ≤ 4 ∧ isO h as.head? (k % 16) ∧ bgle (bgad bg (cst (k / 256))) mb ∧ call (k / 256) as h (xK Q hands (xB is) ls s (bgad bg (cst (k / 256)))) | none => False)
    | .ret k => (match popn (k % 16) st [] with | some (as, s) => s.length ≤ 4 ∧ bgle (bgad bg (cst (k / 16))) mb ∧ call (k / 16) as h (xK Q hands (xB is) ls s (bgad bg (cst (k / 16)))) | none => False)
    | .dload k => (match popn (k % 16) st [] with | some (.ref a :: as, s) => s.length ≤ 4 ∧ bgle (bgad bg (cst (k / 16))) mb ∧ call (k / 16) (.ref a :: as) h (xK Q hands (xB is) ls s (bgad bg (cst (k / 16)))) | _ => False)
    | .goto b => J b.toNat ls st h bg
    | .ifCond c b => (match st with | .int x :: s => (cI c x 0 → J b.toNat ls s h bg) ∧ (¬ cI c x 0 → xB is ls s h bg) | _ => False)
    | .if_icmp c b => (match st with | .int y :: .int x :: s => (cI c x y → J b.toNat ls s h bg) ∧ (¬ cI c x y → xB is ls s h bg) | _ => False)
    | .tableswitch d lo hi offs => (match st with | .int x :: s => (match tsel x d lo hi offs with | some b => J b.toNat ls s h bg | none => False) | _ => False)
    | .lookupswitch d ps => (match st with | .int x :: s => J (Op.lookupswitch.offset ps.toList d x.toInt).toNat ls s h bg | _ => False)
    | .ireturn => (match st with | [.int v] => nrw rt v ∧ Q (.inl (some (.int v))) h | _ => False)
    | .lreturn => (match st with | [.long v] => rt = some .long ∧ Q (.inl (some (.long v))) h | _ => False)
    | .areturn => (match st with | [.ref a] => isR rt ∧ Q (.inl (some (.ref a))) h | _ => False)
    | .return_ => (match st with | [] => rt = none ∧ Q (.inl none) h | _ => False)
    | _ => False
end XB
end
section
abbrev ac_M : Type := MethodName × ByteArray × Nat × Option FieldType × Nat × Nat × Nat × (Nat × Nat) × List (Nat × Int) × List (Nat × ac_I) × List Nat × List (Nat × Nat × Nat × Nat)
def mY (m : ac_M) : MethodName := m.1
def mC (m : ac_M) : ByteArray := m.2.1
def mL (m : ac_M) : Nat := m.2.2.1
def mR (m : ac_M) : Option FieldType := m.2.2.2.1
def mO (m : ac_M) : Nat := m.2.2.2.2.1
def mK (m : ac_M) : Nat := m.2.2.2.2.2.1
def mN (m : ac_M) : Nat := m.2.2.2.2.2.2.1
def mB (m : ac_M) : Nat × Nat := m.2.2.2.2.2.2.2.1
def mH (m : ac_M) : List (Nat × Int) := m.2.2.2.2.2.2.2.2.1
def mS (m : ac_M) : List (Nat × ac_I) := m.2.2.2.2.2.2.2.2.2.1
def mP (m : ac_M) : List Nat := m.2.2.2.2.2.2.2.2.2.2.1
def mT (m : ac_M) : List (Nat × Nat × Nat × Nat) := m.2.2.2.2.2.2.2.2.2.2.2
def oR (o : Nat) : String := [RX0, RX1, RX2, RX3, RX4, RX5, RX6, RX7, RL, RJ6, RJ9, RJ0, RJ1, RJ3].getD o ""
def fT (k : Nat) : String × String × String × Bool := match k / 32 with
  | 0 => TX0 (k % 32)
  | 1 => TX1 (k % 32)
  | 2 => TX2 (k % 32)
  | 3 => TX3 (k % 32)
  | 4 => TX4 (k % 32)
  | 5 => TX5 (k % 32)
  | 6 => TX6 (k % 32)
  | _ => TX7 (k % 32)
def exN (e : Nat) : String := ["java/lang/IllegalArgumentException", "java/util/NoSuchElementException", "java/lang/IllegalStateException", "java/lang/IndexOutOfBoundsException"].getD e ""

/-- own class, field, index, place of the word -/
def fldTab : List (Nat × Nat × Nat × Nat) := [(0, 0, 31, 112), (0, 1, 9, 115), (0, 2, 15, 120), (0, 3, 34, 124), (0, 4, 37, 130), (0, 5, 40, 134), (0, 6, 43, 137), (0, 7, 46, 140), (0, 8, 49, 141), (0, 9, 52, 142), (0, 10, 18, 143), (0, 11, 22, 146), (0, 12, 25, 149), (0, 13, 28, 152), (1, 3, 89, 126), (1, 4, 37, 131), (1, 6, 19, 136), (1, 10, 40, 144), (1, 11, 64, 148), (1, 13, 47, 153), (1, 32, 15, 229), (1, 33, 25, 230), (1, 34, 30, 231), (1, 35, 33, 233), (1, 36, 57, 234), (1, 37, 9, 235), (2, 0, 50, 113), (2, 1, 74, 118), (2, 2, 78, 122), (2, 3, 82, 125), (2, 4, 87, 132), (2, 64, 9, 191), (2, 65, 23, 193), (2, 66, 26, 194), (2, 67, 15, 196), (2, 68, 29, 198), (2, 69, 32, 199), (2, 70, 43, 200), (2, 71, 139, 201), (2, 72, 19, 202), (3, 96, 15, 298), (3, 97, 19, 300), (3, 98, 23, 301), (3, 99, 9, 303), (4, 1, 37, 116), (4, 4, 20, 128), (4, 7, 30, 139), (4, 128, 9, 257), (4, 129, 17, 259), (5, 1, 52, 117), (5, 2, 55, 121), (5, 4, 23, 129), (5, 12, 62, 150), (5, 160, 9, 271), (5, 161, 15, 272), (5, 162, 40, 273), (5, 163, 43, 274), (5, 164, 46, 275), (5, 165, 49, 276), (6, 0, 94, 114), (6, 1, 128, 119), (6, 2, 122, 123), (6, 3, 331, 127), (6, 4, 207, 133), (6, 5, 112, 135), (6, 6, 150, 138), (6, 10, 103, 145), (6, 11, 106, 147), (6, 12, 109, 151), (6, 13, 156, 154), (6, 34, 279, 232), (6, 65, 75, 192), (6, 66, 91, 195), (6, 67, 97, 197), (6, 96, 340, 299), (6, 98, 186, 302), (6, 99, 192, 304), (6, 128, 210, 258), (6, 192, 10, 316), (6, 193, 16, 317), (6, 194, 19, 318), (6, 195, 27, 319), (6, 196, 34, 320), (6, 197, 41, 321), (6, 198, 48, 322), (6, 199, 54, 323), (6, 200, 58, 324), (6, 201, 62, 325), (6, 202, 66, 326), (6, 203, 70, 327), (7, 224, 9, 1226), (7, 225, 13, 1227), (7, 226, 16, 1228), (7, 227, 19, 1229), (7, 228, 65, 1230), (7, 229, 23, 1231), (7, 230, 68, 1232), (7, 231, 71, 1233), (7, 232, 74, 1234), (7, 233, 77, 1235), (7, 234, 80, 1236), (7, 235, 94, 1237), (7, 236, 97, 1238), (7, 237, 100, 1239), (7, 238, 180, 1240), (7, 239, 26, 1241), (7, 240, 30, 1242), (7, 241, 216, 1243), (7, 242, 224, 1244), (7, 243, 33, 1245), (7, 244, 36, 1246), (7, 245, 39, 1247), (7, 246, 42, 1248), (7, 247, 45, 1249), (7, 248, 49, 1250), (7, 249, 52, 1251), (7, 250, 55, 1252), (7, 251, 58, 1253)]
def conTab : List (Nat × Nat × Int × Nat) := [(9, 265, 1431655765, 396), (9, 266, 858993459, 397), (9, 267, 252645135, 398), (1, 88, 1103515245, 417), (7, 223, 1103515245, 1462)]
def conLTab : List (Nat × Nat × Nat × Nat) := [(8, 317, 4294967295, 1774), (7, 209, 6, 1410), (7, 214, 12, 1433), (7, 285, 999, 1587), (7, 316, 20, 1645), (7, 322, 60, 1674), (7, 324, 2, 1675), (7, 326, 100, 1676), (7, 337, 30, 1704), (7, 345, 3, 1534)]
def strTab : List (Nat × Nat × Nat) := [(2, 56, 0), (2, 68, 14), (2, 76, 15), (2, 80, 16), (2, 105, 12), (2, 107, 13), (2, 117, 1), (2, 119, 2), (2, 121, 3), (2, 123, 4), (2, 125, 5), (2, 127, 6), (2, 129, 7), (2, 131, 8), (2, 133, 9), (2, 135, 10), (2, 137, 11), (7, 127, 1), (7, 129, 2), (7, 131, 3), (7, 133, 4), (7, 135, 5), (7, 137, 6), (7, 139, 7), (7, 141, 8), (7, 143, 9), (7, 145, 10), (7, 147, 11), (7, 156, 12), (7, 161, 13), (7, 163, 14), (7, 165, 15), (7, 167, 16), (7, 169, 0)]
def statTab : List (Nat × Nat × Nat × Nat) := [(6, 0, 288, 1091), (6, 1, 291, 1092)]
def statN : List (Nat × Nat × Nat) := [(2, 0, 98), (2, 1, 102)]
/-- own class, kind (0 virtual, 1 static, 2 special, 4 and 5 by the nest, 6 static with a table), method, index, place -/
def mthTab : List (Nat × Nat × Nat × Nat × Nat) := [(8, 0, 71, 154, 353), (8, 0, 72, 7, 507), (8, 0, 73, 169, 361), (8, 0, 74, 15, 712), (8, 0, 75, 21, 742), (8, 0, 76, 24, 750), (8, 0, 77, 29, 785), (8, 0, 78, 33, 797), (8, 0, 79, 36, 804), (8, 0, 80, 39, 815), (8, 0, 81, 195, 365), (8, 0, 82, 42, 822), (8, 0, 83, 45, 831), (8, 0, 84, 205, 426), (8, 0, 85, 49, 839), (8, 0, 86, 52, 857), (8, 0, 87, 55, 869), (8, 0, 88, 218, 432), (8, 0, 89, 58, 876), (8, 0, 90, 225, 444), (8, 0, 91, 229, 453), (8, 0, 92, 61, 883), (8, 0, 94, 64, 898), (8, 0, 95, 240, 466), (8, 0, 96, 68, 930), (8, 0, 97, 71, 937), (8, 0, 98, 74, 944), (8, 0, 99, 77, 951), (8, 0, 100, 80, 964), (8, 0, 101, 83, 971), (8, 0, 102, 86, 979), (8, 0, 103, 90, 996), (8, 0, 104, 93, 1003), (8, 0, 105, 96, 1014), (8, 0, 106, 100, 1030), (8, 0, 107, 103, 1044), (8, 0, 108, 106, 1062), (8, 0, 109, 109, 1080), (8, 0, 110, 112, 1087), (8, 0, 111, 115, 1100), (8, 0, 112, 293, 478), (8, 0, 113, 118, 1107), (8, 0, 114, 300, 486), (8, 0, 115, 121, 1114), (8, 0, 116, 124, 1122), (8, 0, 117, 127, 1144), (8, 0, 118, 130, 1151), (8, 0, 119, 134, 1163), (8, 0, 120, 140, 1193), (8, 0, 121, 143, 1203), (8, 0, 122, 147, 1213), (8, 0, 123, 333, 494), (8, 0, 138, 165, 1311), (8, 0, 145, 158, 1315), (8, 0, 157, 164, 1319), (8, 0, 158, 172, 1394), (8, 0, 166, 176, 1398), (8, 0, 167, 179, 1429), (8, 0, 178, 182, 1434), (8, 0, 179, 185, 1475), (8, 0, 180, 188, 1487), (8, 0, 182, 191, 1491), (8, 0, 183, 194, 1499), (8, 0, 184, 198, 1503), (8, 0, 185, 201, 1511), (8, 0, 186, 204, 1515), (8, 0, 187, 208, 1519), (8, 0, 189, 211, 1523), (8, 0, 193, 214, 1535), (8, 0, 194, 217, 1543), (8, 0, 195, 221, 1551), (8, 0, 197, 224, 1555), (8, 0, 198, 228, 1563), (8, 0, 201, 232, 1567), (8, 0, 202, 235, 1579), (8, 0, 205, 239, 1583), (8, 0, 206, 243, 1596), (8, 0, 207, 246, 1604), (8, 0, 208, 249, 1608), (8, 0, 209, 252, 1612), (8, 0, 211, 255, 1616), (8, 0, 214, 258, 1625), (8, 0, 215, 261, 1637), (8, 0, 219, 264, 1641), (8, 0, 220, 267, 1658), (8, 0, 221, 270, 1662), (8, 0, 222, 274, 1666), (8, 0, 224, 277, 1670), (8, 0, 227, 280, 1681), (8, 0, 228, 283, 1692), (8, 0, 229, 286, 1696), (8, 0, 231, 289, 1700), (8, 0, 232, 292, 1708), (8, 0, 233, 296, 1712), (8, 0, 235, 299, 1716), (8, 0, 236, 303, 1724), (8, 0, 237, 306, 1728), (8, 0, 239, 309, 1732), (8, 0, 240, 312, 1741), (8, 0, 242, 316, 1745), (8, 0, 244, 322, 1749), (8, 0, 245, 325, 1757), (8, 0, 246, 329, 1762), (8, 0, 247, 332, 1766), (8, 0, 248, 336, 1770), (8, 2, 70, 150, 100), (8, 2, 137, 153, 1219), (8, 6, 256, 159, 503), (8, 6, 257, 173, 708), (8, 6, 258, 177, 739), (8, 6, 259, 180, 746), (8, 6, 260, 183, 782), (8, 6, 261, 186, 794), (8, 6, 262, 189, 801), (8, 6, 263, 192, 812), (8, 6, 264, 199, 819), (8, 6, 265, 202, 828), (8, 6, 266, 209, 836), (8, 6, 267, 212, 854), (8, 6, 268, 215, 866), (8, 6, 269, 222, 873), (8, 6, 270, 233, 880), (8, 6, 271, 236, 895), (8, 6, 272, 244, 927), (8, 6, 273, 247, 934), (8, 6, 274, 250, 941), (8, 6, 275, 253, 948), (8, 6, 276, 256, 961), (8, 6, 277, 259, 968), (8, 6, 278, 262, 976), (8, 6, 279, 265, 993), (8, 6, 280, 268, 1000), (8, 6, 281, 271, 1011), (8, 6, 282, 275, 1027), (8, 6, 283, 278, 1041), (8, 6, 284, 281, 1059), (8, 6, 285, 284, 1077), (8, 6, 286, 287, 1084), (8, 6, 287, 290, 1097), (8, 6, 288, 297, 1104), (8, 6, 289, 304, 1111), (8, 6, 290, 307, 1119), (8, 6, 291, 310, 1141), (8, 6, 292, 313, 1148), (8, 6, 293, 319, 1159), (8, 6, 294, 323, 1190), (8, 6, 295, 326, 1200), (8, 6, 296, 330, 1210), (0, 0, 8, 67, 385), (0, 0, 10, 71, 389), (0, 0, 11, 75, 865), (0, 0, 12, 82, 959), (0, 0, 14, 79, 474), (0, 0, 16, 90, 452), (0, 0, 27, 96, 502), (0, 0, 29, 99, 1130), (0, 0, 30, 102, 1134), (0, 1, 23, 93, 1056), (0, 1, 249, 61, 393), (0, 1, 253, 85, 960), (1, 0, 8, 67, 407), (1, 0, 9, 26, 373), (1, 0, 10, 99, 1040), (1, 0, 11, 50, 381), (1, 0, 18, 85, 422), (1, 0, 19, 76, 409), (1, 0, 20, 82, 418), (1, 0, 32, 92, 1038), (1, 0, 33, 43, 377), (1, 0, 34, 96, 1039), (1, 0, 36, 54, 777), (1, 0, 37, 60, 403), (1, 0, 38, 79, 413), (1, 1, 249, 70, 408), (2, 0, 1, 35, 582), (2, 0, 2, 109, 693), (2, 0, 3, 53, 704), (2, 0, 44, 46, 596), (2, 0, 45, 62, 653), (2, 0, 46, 94, 661), (2, 0, 48, 65, 697), (2, 0, 49, 70, 687), (2, 0, 50, 84, 679), (2, 0, 51, 90, 657), (2, 0, 52, 58, 601), (2, 0, 53, 40, 586), (2, 1, 47, 113, 665), (2, 1, 54, 150, 590), (2, 1, 55, 154, 593), (3, 0, 59, 26, 1186), (4, 0, 8, 33, 465), (4, 0, 62, 26, 461), (5, 0, 66, 19, 906), (5, 0, 67, 33, 913), (5, 0, 69, 37, 923), (5, 1, 68, 58, 917), (5, 1, 253, 65, 920), (5, 4, 136, 29, 0), (6, 0, 4, 282, 1066), (6, 0, 5, 285, 1073), (6, 0, 6, 140, 778), (6, 0, 7, 201, 436), (6, 0, 8, 178, 835), (6, 0, 9, 172, 430), (6, 0, 10, 146, 793), (6, 0, 12, 195, 861), (6, 0, 13, 232, 470), (6, 0, 14, 238, 975), (6, 0, 15, 235, 955), (6, 0, 16, 198, 440), (6, 0, 17, 204, 448), (6, 0, 18, 175, 431), (6, 0, 19, 163, 826), (6, 0, 20, 301, 1118), (6, 0, 21, 272, 1048), (6, 0, 22, 276, 1052), (6, 0, 24, 115, 490), (6, 0, 25, 119, 735), (6, 0, 26, 334, 498), (6, 0, 27, 298, 482), (6, 0, 28, 307, 1126), (6, 0, 32, 134, 369), (6, 0, 34, 189, 850), (6, 0, 35, 137, 773), (6, 0, 36, 159, 399), (6, 0, 39, 269, 1034), (6, 0, 40, 294, 1093), (6, 0, 42, 79, 357), (6, 0, 43, 87, 578), (6, 0, 57, 316, 1155), (6, 0, 58, 321, 1182), (6, 0, 61, 213, 457), (6, 0, 63, 221, 891), (6, 0, 65, 228, 902), (6, 0, 93, 217, 887), (6, 0, 126, 249, 1007), (6, 0, 127, 100, 716), (6, 0, 128, 153, 808), (6, 0, 129, 131, 754), (6, 0, 130, 143, 789), (6, 0, 133, 182, 843), (6, 1, 124, 83, 511), (6, 1, 125, 241, 983), (6, 1, 131, 328, 1207), (6, 1, 132, 313, 847), (6, 1, 134, 245, 986), (6, 1, 135, 304, 989), (6, 1, 136, 253, 992), (6, 1, 249, 167, 827), (6, 1, 250, 263, 1021), (6, 1, 251, 266, 1024), (6, 1, 252, 310, 1138), (6, 1, 254, 257, 1018), (6, 1, 255, 325, 1197), (6, 2, 31, 33, 225), (6, 2, 41, 24, 187), (6, 2, 64, 47, 267), (6, 5, 0, 9, 0), (6, 5, 56, 74, 0), (6, 5, 60, 40, 0), (7, 0, 139, 174, 1326), (7, 0, 146, 87, 1337), (7, 0, 149, 116, 1330), (7, 0, 150, 119, 1363), (7, 0, 151, 112, 1353), (7, 0, 152, 158, 1349), (7, 0, 153, 152, 1359), (7, 0, 154, 149, 1374), (7, 0, 155, 171, 1370), (7, 0, 156, 177, 1344), (7, 0, 159, 187, 1406), (7, 0, 160, 190, 1483), (7, 0, 161, 206, 1402), (7, 0, 162, 251, 1479), (7, 0, 163, 203, 1411), (7, 0, 164, 200, 1422), (7, 0, 165, 211, 1415), (7, 0, 168, 242, 1438), (7, 0, 169, 257, 1507), (7, 0, 170, 236, 1467), (7, 0, 171, 245, 1442), (7, 0, 172, 233, 1463), (7, 0, 173, 227, 1458), (7, 0, 174, 230, 1454), (7, 0, 175, 238, 1450), (7, 0, 176, 219, 1446), (7, 0, 177, 248, 1471), (7, 0, 181, 254, 1495), (7, 0, 188, 263, 1527), (7, 0, 190, 266, 1539), (7, 0, 191, 269, 1547), (7, 0, 192, 291, 1600), (7, 0, 196, 272, 1559), (7, 0, 199, 275, 1575), (7, 0, 200, 278, 1571), (7, 0, 203, 281, 1592), (7, 0, 204, 287, 1588), (7, 0, 210, 299, 1620), (7, 0, 212, 302, 1633), (7, 0, 213, 305, 1629), (7, 0, 216, 309, 1650), (7, 0, 217, 312, 1654), (7, 0, 218, 318, 1646), (7, 0, 223, 328, 1677), (7, 0, 226, 334, 1685), (7, 0, 234, 342, 1720), (7, 0, 238, 347, 1736), (7, 0, 243, 353, 1753), (7, 1, 140, 123, 1323), (7, 1, 141, 196, 1419), (7, 1, 142, 193, 1426), (7, 1, 143, 183, 1391), (7, 1, 144, 61, 1223), (7, 1, 147, 83, 1334), (7, 1, 148, 91, 1341), (7, 1, 225, 331, 1689), (7, 1, 230, 339, 1705), (7, 1, 241, 260, 1531), (7, 1, 252, 350, 1740), (7, 1, 253, 294, 1624), (7, 1, 255, 357, 1761)]
def newTab : List (Nat × Nat × Nat × Nat) := [(8, 6, 8, 98), (8, 7, 151, 1217), (6, 0, 7, 106), (6, 1, 31, 223), (6, 2, 22, 185), (6, 3, 52, 290), (6, 4, 38, 249), (6, 5, 45, 265)]
def anaTab : List (Nat × Nat × Nat × Nat) := [(6, 5, 52, 290), (6, 6, 7, 106)]
def mnaTab : List (Nat × Nat × Nat) := [(4, 15, 255)]
def objTab : List (Nat × Nat × Nat) := [(0, 3, 111), (1, 3, 228), (2, 3, 190), (3, 3, 297), (4, 3, 254), (5, 3, 270), (6, 1, 103), (7, 1, 1222)]
def cpyTab : List (Nat × Nat × Nat) := [(0, 55, 1070)]
def sxTab : List (Nat × Nat × Nat × Nat) := [(2, 0, 142, 605), (2, 1, 146, 615), (7, 0, 103, 1357), (7, 1, 108, 1358)]
/-- own class, exception, index of the class, index of its constructor, place -/
def excTab : List (Nat × Nat × Nat × Nat × Nat) := [(6, 0, 125, 127, 514), (6, 1, 337, 339, 720), (6, 2, 225, 227, 758), (6, 3, 318, 320, 1167)]
/-- a method: how many arguments, of which class -/
def infTab : List (Nat × Nat) := [(1, 0), (1, 0), (5, 0), (1, 0), (2, 0), (4, 0), (2, 0), (1, 0), (3, 0), (1, 0), (2, 0), (3, 0), (3, 0), (2, 0), (2, 0), (2, 0), (2, 0), (2, 0), (3, 0), (3, 0), (3, 0), (1, 0), (1, 0), (2, 0), (2, 0), (2, 0), (1, 0), (3, 0), (3, 0), (2, 0), (2, 0), (2, 1), (2, 1), (2, 1), (1, 1), (2, 1), (1, 1), (3, 1), (2, 1), (3, 1), (4, 1), (2, 2), (2, 2), (3, 2), (1, 2), (1, 2), (1, 2), (1, 2), (1, 2), (3, 2), (1, 2), (2, 2), (2, 2), (1, 2), (1, 2), (1, 2), (1, 3), (3, 3), (3, 3), (2, 3), (1, 4), (2, 4), (4, 4), (3, 4), (2, 5), (5, 5), (4, 5), (1, 5), (3, 5), (1, 5), (1, 6), (6, 6), (2, 6), (2, 6), (3, 6), (2, 6), (2, 6), (2, 6), (2, 6), (2, 6), (2, 6), (1, 6), (2, 6), (3, 6), (1, 6), (3, 6), (3, 6), (2, 6), (2, 6), (2, 6), (2, 6), (1, 6), (3, 6), (2, 6), (4, 6), (1, 6), (2, 6), (2, 6), (3, 6), (2, 6), (2, 6), (2, 6), (4, 6), (2, 6), (4, 6), (5, 6), (3, 6), (2, 6), (3, 6), (2, 6), (4, 6), (2, 6), (2, 6), (3, 6), (1, 6), (3, 6), (2, 6), (2, 6), (4, 6), (4, 6), (2, 6), (2, 6), (2, 6), (2, 6), (3, 6), (2, 6), (3, 6), (2, 6), (2, 6), (1, 6), (2, 6), (1, 6), (1, 6), (2, 6), (4, 6), (2, 6), (2, 6), (1, 7), (1, 7), (2, 7), (3, 7), (2, 7), (1, 7), (2, 7), (1, 7), (6, 7), (2, 7), (1, 7), (1, 7), (1, 7), (2, 7), (2, 7), (2, 7), (3, 7), (1, 7), (1, 7), (1, 7), (2, 7), (2, 7), (1, 7), (1, 7), (2, 7), (2, 7), (3, 7), (2, 7), (3, 7), (3, 7), (2, 7), (1, 7), (1, 7), (2, 7), (1, 7), (3, 7), (2, 7), (4, 7), (6, 7), (4, 7), (2, 7), (2, 7), (2, 7), (2, 7), (2, 7), (2, 7), (2, 7), (1, 7), (2, 7), (3, 7), (1, 7), (2, 7), (3, 7), (3, 7), (2, 7), (2, 7), (3, 7), (2, 7), (2, 7), (2, 7), (2, 7), (2, 7), (3, 7), (1, 7), (1, 7), (3, 7), (5, 7), (4, 7), (4, 7), (1, 7), (2, 7), (2, 7), (3, 7), (2, 7), (2, 7), (2, 7), (2, 7), (2, 7), (2, 7), (1, 7), (3, 7), (5, 7), (4, 7), (2, 7), (4, 7), (5, 7), (2, 7), (3, 7), (2, 7), (1, 7), (2, 7), (3, 7), (2, 7), (2, 7), (4, 7), (2, 7), (2, 7), (3, 7), (3, 7), (1, 7), (3, 7), (3, 7), (2, 7), (2, 7), (1, 7), (4, 7), (4, 7), (4, 7), (2, 7), (2, 7), (2, 7), (2, 7), (1, 9), (2, 10), (2, 10), (1, 10), (2, 10), (2, 10), (2, 10), (3, 8), (4, 8), (3, 8), (3, 8), (3, 8), (3, 8), (3, 8), (3, 8), (3, 8), (4, 8), (4, 8), (4, 8), (3, 8), (3, 8), (4, 8), (5, 8), (3, 8), (3, 8), (4, 8), (3, 8), (3, 8), (3, 8), (5, 8), (3, 8), (5, 8), (6, 8), (4, 8), (3, 8), (4, 8), (3, 8), (5, 8), (3, 8), (4, 8), (4, 8), (3, 8), (3, 8), (4, 8), (5, 8), (3, 8), (2, 8), (2, 8)]
/-- what the methods that make cells make at most -/
def costTab : List (Nat × Nat × Nat) := [(0, 4, 96), (31, 1, 12), (41, 1, 700), (56, 1, 60), (60, 15, 207), (64, 1, 8), (70, 65, 2290), (72, 1, 6), (74, 2, 12), (75, 1, 6), (76, 1, 6), (77, 2, 12), (78, 1, 6), (79, 1, 6), (80, 1, 6), (82, 1, 6), (83, 2, 12), (85, 3, 18), (86, 2, 12), (87, 1, 6), (89, 1, 6), (92, 5, 30), (93, 2, 12), (94, 3, 18), (96, 1, 6), (97, 1, 6), (98, 2, 12), (99, 1, 6), (100, 1, 6), (101, 1, 6), (102, 2, 12), (103, 1, 6), (104, 5, 30), (105, 4, 24), (106, 2, 12), (107, 1, 6), (108, 2, 12), (109, 1, 6), (110, 3, 18), (111, 1, 6), (113, 2, 12), (115, 2, 12), (116, 1, 6), (117, 1, 6), (118, 3, 18), (119, 3, 18), (120, 2, 12), (121, 1, 6), (122, 2, 12), (124, 1, 6), (125, 2, 12), (126, 2, 12), (127, 1, 6), (128, 1, 6), (129, 1, 6), (130, 1, 6), (131, 1, 6), (132, 1, 6), (133, 2, 12), (137, 15, 2621), (256, 1, 6), (257, 2, 12), (258, 1, 6), (259, 1, 6), (260, 2, 12), (261, 1, 6), (262, 1, 6), (263, 1, 6), (264, 1, 6), (265, 2, 12), (266, 3, 18), (267, 2, 12), (268, 1, 6), (269, 1, 6), (270, 5, 30), (271, 3, 18), (272, 1, 6), (273, 1, 6), (274, 2, 12), (275, 1, 6), (276, 1, 6), (277, 1, 6), (278, 2, 12), (279, 1, 6), (280, 5, 30), (281, 4, 24), (282, 2, 12), (283, 1, 6), (284, 2, 12), (285, 1, 6), (286, 3, 18), (287, 1, 6), (288, 2, 12), (289, 2, 12), (290, 1, 6), (291, 1, 6), (292, 3, 18), (293, 3, 18), (294, 2, 12), (295, 1, 6), (296, 2, 12)]
def cst (k : Nat) : Nat × Nat := match costTab.find? (fun q => q.1 == k) with
  | some q => q.2
  | none => (0, 0)
def zc (k : Nat) : Bool := !(costTab.any (fun q => q.1 == k))
/-- the start of a block, as a jump's end -/
def jOK (sp : List Nat) (pc : Nat) (b off : Int) : Bool := match sp[b.toNat]? with
  | some t => decide ((pc : Int) + off = (t : Int))
  | none => false
def simpleI (i : Instr) : Bool := match i with
  | .iadd => true
  | .isub => true
  | .imul => true
  | .idiv => true
  | .irem => true
  | .ineg => true
  | .iand => true
  | .ior => true
  | .ixor => true
  | .ishl => true
  | .ishr => true
  | .iushr => true
  | .ladd => true
  | .lsub => true
  | .lmul => true
  | .ldiv => true
  | .lrem => true
  | .land => true
  | .lor => true
  | .lxor => true
  | .lshl => true
  | .lshr => true
  | .lcmp => true
  | .i2l => true
  | .l2i => true
  | .i2b => true
  | .i2s => true
  | .i2c => true
  | .dup => true
  | .pop => true
  | .pop2 => true
  | .dup2 => true
  | .iaload => true
  | .laload => true
  | .baload => true
  | .aaload => true
  | .iastore => true
  | .lastore => true
  | .bastore => true
  | .aastore => true
  | .ireturn => true
  | .lreturn => true
  | .areturn => true
  | .return_ => true
  | .arraylength => true
  | _ => false
section REL
variable (own : Nat) (isI : Bool) (tr : Nat) (maxL : Nat) (sp : List Nat) (pc : Nat) (n : Nat)
def rel (ai ci : Instr) : Bool := match ai with
  | .sipush k => (match ci with | .iconst j => n == 1 && j == k | .bipush j => n == 2 && j == k && decide ((Int8.ofInt j).toInt32 = kI j) | .sipush j => n == 3 && j == k && decide ((Int16.ofInt j).toInt32 = kI j) | .ldc j => n == 2 && conTab.any (fun q => q.1 == own && q.2.1 == j && q.2.2.1 == k) | .ldc_w j => n == 3 && conTab.any (fun q => q.1 == own && q.2.1 == j && q.2.2.1 == k) | _ => false)
  | .ldc2_w k => (match ci with | .lconst j => n == 1 && j.val == k | .ldc2_w j => n == 3 && conLTab.any (fun q => q.1 == own && q.2.1 == j && q.2.2.1 == k) | _ => false)
  | .ldc k => (match ci with | .ldc j => n == 2 && strTab.any (fun q => q.1 == own && q.2.1 == j && q.2.2 == k) | _ => false)
  | .getstatic k => (match ci with | .getstatic j => n == 3 && (statTab.any (fun q => q.1 == own && q.2.1 == k && q.2.2.1 == j) || statN.any (fun q => q.1 == own && q.2.1 == k && q.2.2 == j)) | _ => false)
  | .iload i => (match ci with | .iload j => n == 2 && j == i | .iload_n j => n == 1 && j.val == i | _ => false)
  | .lload i => (match ci with | .lload j => n == 2 && j == i | .lload_n j => n == 1 && j.val == i | _ => false)
  | .aload i => (match ci with | .aload j => n == 2 && j == i | .aload_n j => n == 1 && j.val == i | _ => false)
  | .istore i => (match ci with | .istore j => n == 2 && j == i && decide (i < maxL) | .istore_n j => n == 1 && j.val == i && decide (i < maxL) | _ => false)
  | .astore i => (match ci with | .astore j => n == 2 && j == i && decide (i < maxL) | .astore_n j => n == 1 && j.val == i && decide (i < maxL) | _ => false)
  | .lstore i => (match ci with | .lstore j => n == 2 && j == i && decide (i + 1 < maxL) | .lstore_n j => n == 1 && j.val == i && decide (i + 1 < maxL) | _ => false)
  | .iinc i k => (match ci with | .iinc j k2 => n == 3 && j == i && k2 == k && decide (i < maxL) | _ => false)
  | .faload => (match ci with | .iaload => n == 1 | _ => false)
  | .daload => (match ci with | .iaload => n == 1 | _ => false)
  | .saload => (match ci with | .iaload => n == 1 | _ => false)
  | .caload => (match ci with | .arraylength => n == 1 | _ => false)
  | .invokedynamic w => (match ci with | .invokevirtual j => n == 3 && sxTab.any (fun q => q.1 == own && q.2.1 == w && q.2.2.1 == j) | _ => false)
  | .getfield k => (match ci with | .getfield j => n == 3 && fldTab.any (fun q => q.1 == own && q.2.1 == k && q.2.2.1 == j) | _ => false)
  | .putfield k => (match ci with | .putfield j => n == 3 && fldTab.any (fun q => q.1 == own && q.2.1 == k && q.2.2.1 == j) && (!(fT k).2.2.2 || (isI && k / 32 == own)) | _ => false)
  | .new k => (match ci with | .new j => n == 3 && newTab.any (fun q => q.1 == own && q.2.1 == k && q.2.2.1 == j) | _ => false)
  | .newarray t => (match ci with | .newarray u => n == 2 && decide (t = u) | _ => false)
  | .anewarray t => (match ci with | .anewarray j => n == 3 && anaTab.any (fun q => q.1 == own && q.2.1 == t && q.2.2.1 == j) | _ => false)
  | .swap => (match ci with | .multianewarray j 2 => n == 4 && mnaTab.any (fun q => q.1 == own && q.2.1 == j) | _ => false)
  | .monitorexit => (match ci with | .invokespecial j => n == 3 && objTab.any (fun q => q.1 == own && q.2.1 == j) | _ => false)
  | .monitorenter => (match ci with | .invokestatic j => n == 3 && cpyTab.any (fun q => q.1 == own && q.2.1 == j) | _ => false)
  | .multianewarray k d => (match ci with | .invokevirtual j => n == 3 && decide (infTab[k]? = some (d / 16, d % 16)) && zc k && (tr == 0 || decide (pc < tr)) && mthTab.any (fun q => q.1 == own && q.2.1 == 0 && q.2.2.1 == k && q.2.2.2.1 == j) | _ => false)
  | .putstatic e => (match ci with | .invokevirtual j => n == 3 && decide (infTab[e / 256]? = some (e / 16 % 16, e % 16)) && (tr == 0 || decide (pc < tr)) && mthTab.any (fun q => q.1 == own && q.2.1 == 0 && q.2.2.1 == e / 256 && q.2.2.2.1 == j) | _ => false)
  | .invokeinterface k d => (match ci with | .invokestatic j => n == 3 && decide ((infTab[k]?).map (fun q => q.1) = some d) && zc k && (tr == 0 || decide (pc < tr)) && mthTab.any (fun q => q.1 == own && (q.2.1 == 1 || q.2.1 == 4) && q.2.2.1 == k && q.2.2.2.1 == j) | _ => false)
  | .ret e => (match ci with | .invokestatic j => n == 3 && decide ((infTab[e / 16]?).map (fun q => q.1) = some (e % 16)) && (tr == 0 || decide (pc < tr)) && mthTab.any (fun q => q.1 == own && (q.2.1 == 1 || q.2.1 == 6) && q.2.2.1 == e / 16 && q.2.2.2.1 == j) | _ => false)
  | .dload e => (match ci with | .invokespecial j => n == 3 && decide ((infTab[e / 16]?).map (fun q => q.1) = some (e % 16)) && (tr == 0 || decide (pc < tr)) && mthTab.any (fun q => q.1 == own && (q.2.1 == 2 || q.2.1 == 5) && q.2.2.1 == e / 16 && q.2.2.2.1 == j) | _ => false)
  | .goto b => (match ci with | .goto off => n == 3 && jOK sp pc b off | _ => false)
  | .ifCond d b => (match ci with | .ifCond d2 off => n == 3 && decide (d = d2) && jOK sp pc b off | _ => false)
  | .if_icmp d b => (match ci with | .if_icmp d2 off => n == 3 && decide (d = d2) && jOK sp pc b off | _ => false)
  | .tableswitch d lo hi os => (match ci with | .tableswitch d2 lo2 hi2 os2 => lo == lo2 && hi == hi2 && jOK sp pc d d2 && os.size == os2.size && (os.toList.zip os2.toList).all (fun q => jOK sp pc q.1 q.2) | _ => false)
  | .lookupswitch d ps => (match ci with | .lookupswitch d2 ps2 => jOK sp pc d d2 && (ps2.toList.zip (ps2.toList.drop 1)).all (fun (a, next) => a.1 < next.1) && ps.size == ps2.size && (ps.toList.zip ps2.toList).all (fun q => q.1.1 == q.2.1 && jOK sp pc q.1.2 q.2.2) | _ => false)
  | ai => simpleI ai && decide (ci = ai) && n == 1
end REL
/-- a row of abstract instructions from pc on -/
def rowOK (own : Nat) (isI : Bool) (tr : Nat) (maxL : Nat) (sp : List Nat) (cc : ByteArray) : Nat → ac_I → Bool
  | _, [] => true
  | pc, (.goto b, 0) :: is => is.isEmpty && (match sp[b.toNat]? with | some t => t == pc | none => false)
  | pc, (.instanceof e, n) :: is => n == 8 && is.isEmpty && tr == 0 && (match decode cc pc, decode cc (pc + 3), decode cc (pc + 4), decode cc (pc + 7) with
    | .ok (.new ik, 3), .ok (.dup, 1), .ok (.invokespecial ic, 3), .ok (.athrow, 1) => excTab.any (fun q => q.1 == own && q.2.1 == e && q.2.2.1 == ik && q.2.2.2.1 == ic)
    | _, _, _, _ => false)
  | pc, (ai, n) :: is => (match decode cc pc with | .ok (ci, n2) => n2 == n && rel own isI tr maxL sp pc n ai ci | _ => false) && rowOK own isI tr maxL sp cc (pc + n) is
def starts (m : ac_M) : List Nat := (mS m).map (fun b => b.1)
def trE (m : ac_M) : Nat := match mT m with
  | [] => 0
  | q :: _ => q.2.1
def codeOK (m : ac_M) : Bool := (mS m).all (fun b => rowOK (mO m) (decide ((mY m).name = "<init>")) (trE m) (mL m) (starts m) (mC m) b.1 b.2)
end
section
def bX0_init : List (Nat × ac_I) := [(0, [(.aload 0, 1), (.monitorexit, 3), (.aload 0, 1), (.sipush (1), 1), (.putfield 1, 3), (.aload 0, 1), (.sipush (10), 2), (.putfield 2, 3), (.aload 0, 1), (.sipush (12), 2), (.newarray .int, 2), (.putfield 10, 3), (.aload 0, 1), (.sipush (12), 2), (.newarray .int, 2), (.putfield 11, 3), (.aload 0, 1), (.sipush (12), 2), (.newarray .int, 2), (.putfield 12, 3), (.aload 0, 1), (.sipush (60), 2), (.newarray .int, 2), (.putfield 13, 3), (.return_, 1)])]
def mX0_init : ac_M := (yX0_init, cX0_init, 1, none, 0, 2, 0, (4, 96), [], bX0_init, [110, 77, 109], [])
def bX0_clear : List (Nat × ac_I) := [(0, [(.aload 0, 1), (.sipush (0), 1), (.putfield 0, 3), (.aload 0, 1), (.sipush (1), 1), (.putfield 1, 3), (.aload 0, 1), (.sipush (10), 2), (.putfield 2, 3), (.aload 0, 1), (.sipush (0), 1), (.putfield 3, 3), (.aload 0, 1), (.sipush (0), 1), (.putfield 4, 3), (.aload 0, 1), (.sipush (0), 1), (.putfield 5, 3), (.aload 0, 1), (.sipush (0), 1), (.putfield 6, 3), (.return_, 1)])]
def mX0_clear : ac_M := (yX0_clear, cX0_clear, 1, none, 0, 0, 0, (0, 0), [], bX0_clear, [585, 77, 583, 584], [])
def bX0_join : List (Nat × ac_I) := [(0, [(.aload 0, 1), (.getfield 4, 3), (.sipush (12), 2), (.if_icmp .lt 1, 3), (.return_, 1)]),
  (10, [(.aload 0, 1), (.getfield 10, 3), (.aload 0, 1), (.getfield 4, 3), (.iload 1, 1), (.iastore, 1), (.aload 0, 1), (.getfield 11, 3), (.aload 0, 1), (.getfield 4, 3), (.iload 2, 1), (.iastore, 1), (.aload 0, 1), (.getfield 12, 3), (.aload 0, 1), (.getfield 4, 3), (.iload 3, 1), (.iastore, 1), (.iload 4, 2), (.ifCond .eq 2, 3), (.aload 0, 1), (.dup, 1), (.getfield 5, 3), (.sipush (1), 1), (.aload 0, 1), (.getfield 4, 3), (.ishl, 1), (.ior, 1), (.putfield 5, 3), (.goto 2, 0)]),
  (60, [(.aload 0, 1), (.dup, 1), (.getfield 4, 3), (.sipush (1), 1), (.iadd, 1), (.putfield 4, 3), (.return_, 1)])]
def mX0_join : ac_M := (yX0_join, cX0_join, 5, none, 0, 0, 4, (0, 0), [], bX0_join, [696, 77, 694, 695], [])
def bX0_weigh : List (Nat × ac_I) := [(0, [(.aload 0, 1), (.sipush (0), 1), (.putfield 7, 3), (.aload 0, 1), (.sipush (0), 1), (.putfield 8, 3), (.aload 0, 1), (.sipush (0), 1), (.putfield 9, 3), (.sipush (0), 1), (.istore 1, 1), (.goto 1, 0)]),
  (17, [(.iload 1, 1), (.aload 0, 1), (.getfield 4, 3), (.if_icmp .ge 8, 3), (.aload 0, 1), (.dup, 1), (.getfield 7, 3), (.aload 0, 1), (.getfield 12, 3), (.iload 1, 1), (.iaload, 1), (.aload 0, 1), (.getfield 2, 3), (.if_icmp .ge 2, 3), (.sipush (1), 1), (.iload 1, 1), (.ishl, 1), (.goto 3, 3)]),
  (49, [(.sipush (0), 1), (.goto 3, 0)]),
  (50, [(.ior, 1), (.putfield 7, 3), (.aload 0, 1), (.dup, 1), (.getfield 8, 3), (.aload 0, 1), (.getfield 12, 3), (.iload 1, 1), (.iaload, 1), (.ifCond .le 4, 3), (.sipush (1), 1), (.iload 1, 1), (.ishl, 1), (.goto 5, 3)]),
  (74, [(.sipush (0), 1), (.goto 5, 0)]),
  (75, [(.ior, 1), (.putfield 8, 3), (.aload 0, 1), (.dup, 1), (.getfield 9, 3), (.aload 0, 1), (.getfield 12, 3), (.iload 1, 1), (.iaload, 1), (.aload 0, 1), (.getfield 2, 3), (.if_icmp .le 6, 3), (.sipush (1), 1), (.iload 1, 1), (.ishl, 1), (.goto 7, 3)]),
  (103, [(.sipush (0), 1), (.goto 7, 0)]),
  (104, [(.ior, 1), (.putfield 9, 3), (.iinc 1 (1), 3), (.goto 1, 3)]),
  (114, [(.return_, 1)])]
def mX0_weigh : ac_M := (yX0_weigh, cX0_weigh, 2, none, 0, 0, 0, (0, 0), [], bX0_weigh, [707, 77, 705, 706], [])
def bX0_become : List (Nat × ac_I) := [(0, [(.aload 0, 1), (.aload 1, 1), (.getfield 0, 3), (.putfield 0, 3), (.aload 0, 1), (.aload 1, 1), (.getfield 1, 3), (.putfield 1, 3), (.aload 0, 1), (.aload 1, 1), (.getfield 2, 3), (.putfield 2, 3), (.aload 0, 1), (.aload 1, 1), (.getfield 3, 3), (.putfield 3, 3), (.aload 0, 1), (.aload 1, 1), (.getfield 4, 3), (.putfield 4, 3), (.aload 0, 1), (.aload 1, 1), (.getfield 5, 3), (.putfield 5, 3), (.aload 0, 1), (.aload 1, 1), (.getfield 6, 3), (.putfield 6, 3), (.aload 0, 1), (.aload 1, 1), (.getfield 7, 3), (.putfield 7, 3), (.aload 0, 1), (.aload 1, 1), (.getfield 8, 3), (.putfield 8, 3), (.aload 0, 1), (.aload 1, 1), (.getfield 9, 3), (.putfield 9, 3), (.aload 1, 1), (.getfield 10, 3), (.sipush (0), 1), (.aload 0, 1), (.getfield 10, 3), (.sipush (0), 1), (.sipush (12), 2), (.monitorenter, 3), (.aload 1, 1), (.getfield 11, 3), (.sipush (0), 1), (.aload 0, 1), (.getfield 11, 3), (.sipush (0), 1), (.sipush (12), 2), (.monitorenter, 3), (.aload 1, 1), (.getfield 12, 3), (.sipush (0), 1), (.aload 0, 1), (.getfield 12, 3), (.sipush (0), 1), (.sipush (12), 2), (.monitorenter, 3), (.aload 1, 1), (.getfield 13, 3), (.sipush (0), 1), (.aload 0, 1), (.getfield 13, 3), (.sipush (0), 1), (.sipush (60), 2), (.monitorenter, 3), (.return_, 1)])]
def mX0_become : ac_M := (yX0_become, cX0_become, 2, none, 0, 0, 1, (0, 0), [], bX0_become, [1069, 77, 1067, 1068], [])
def bX0_giveRule : List (Nat × ac_I) := [(0, [(.aload 0, 1), (.getfield 10, 3), (.iload 1, 1), (.iload 2, 1), (.iastore, 1), (.aload 0, 1), (.getfield 11, 3), (.iload 1, 1), (.iload 3, 1), (.iastore, 1), (.return_, 1)])]
def mX0_giveRule : ac_M := (yX0_giveRule, cX0_giveRule, 4, none, 0, 0, 3, (0, 0), [], bX0_giveRule, [1076, 77, 1074, 1075], [])
def bX0_addWeek : List (Nat × ac_I) := [(0, [(.aload 0, 1), (.getfield 6, 3), (.sipush (60), 2), (.if_icmp .ge 1, 3), (.aload 0, 1), (.getfield 13, 3), (.aload 0, 1), (.getfield 6, 3), (.iload 1, 1), (.iastore, 1), (.aload 0, 1), (.dup, 1), (.getfield 6, 3), (.sipush (1), 1), (.iadd, 1), (.putfield 6, 3), (.goto 1, 0)]),
  (29, [(.return_, 1)])]
def mX0_addWeek : ac_M := (yX0_addWeek, cX0_addWeek, 2, none, 0, 0, 1, (0, 0), [], bX0_addWeek, [781, 77, 779, 780], [])
def bX0_everyone : List (Nat × ac_I) := [(0, [(.sipush (1), 1), (.aload 0, 1), (.getfield 4, 3), (.ishl, 1), (.sipush (1), 1), (.isub, 1), (.ireturn, 1)])]
def mX0_everyone : ac_M := (yX0_everyone, cX0_everyone, 1, (some .int), 0, 0, 0, (0, 0), [], bX0_everyone, [439, 77, 437, 438], [])
def bX0_has : List (Nat × ac_I) := [(0, [(.iload 1, 1), (.iload 2, 1), (.ishr, 1), (.sipush (1), 1), (.iand, 1), (.ifCond .eq 1, 3), (.sipush (1), 1), (.goto 2, 3)]),
  (12, [(.sipush (0), 1), (.goto 2, 0)]),
  (13, [(.ireturn, 1)])]
def mX0_has : ac_M := (yX0_has, cX0_has, 3, (some .boolean), 0, 0, 2, (0, 0), [], bX0_has, [388, 77, 386, 387], [])
def bX0_lastSet : List (Nat × ac_I) := [(0, [(.aload 0, 1), (.getfield 6, 3), (.ifCond .le 1, 3), (.aload 0, 1), (.getfield 13, 3), (.aload 0, 1), (.getfield 6, 3), (.sipush (1), 1), (.isub, 1), (.iaload, 1), (.goto 2, 3)]),
  (21, [(.sipush (0), 1), (.goto 2, 0)]),
  (22, [(.ireturn, 1)])]
def mX0_lastSet : ac_M := (yX0_lastSet, cX0_lastSet, 1, (some .int), 0, 0, 0, (0, 0), [], bX0_lastSet, [376, 77, 374, 375], [])
def bX0_meets : List (Nat × ac_I) := [(0, [(.iload 1, 1), (.invokeinterface 249 1, 3), (.aload 0, 1), (.getfield 1, 3), (.if_icmp .ne 1, 3), (.sipush (1), 1), (.goto 2, 3)]),
  (15, [(.sipush (0), 1), (.goto 2, 0)]),
  (16, [(.ireturn, 1)])]
def mX0_meets : ac_M := (yX0_meets, cX0_meets, 2, (some .boolean), 0, 0, 1, (0, 0), [], bX0_meets, [392, 77, 390, 391], [])
def bX0_payOf : List (Nat × ac_I) := [(0, [(.aload 0, 1), (.iload 2, 1), (.iload 1, 1), (.multianewarray 8 48, 3), (.ifCond .ne 1, 3), (.sipush (0), 1), (.ireturn, 1)]),
  (11, [(.aload 0, 1), (.iload 2, 1), (.multianewarray 10 32, 3), (.ifCond .eq 2, 3), (.aload 0, 1), (.getfield 2, 3), (.goto 3, 3)]),
  (26, [(.sipush (0), 1), (.goto 3, 0)]),
  (27, [(.aload 0, 1), (.getfield 12, 3), (.iload 1, 1), (.iaload, 1), (.isub, 1), (.ireturn, 1)])]
def mX0_payOf : ac_M := (yX0_payOf, cX0_payOf, 3, (some .int), 0, 0, 2, (0, 0), [], bX0_payOf, [384, 77, 382, 383], [])
def bX0_gainOf : List (Nat × ac_I) := [(0, [(.aload 0, 1), (.iload 1, 1), (.iload 2, 1), (.sipush (1), 1), (.iload 1, 1), (.ishl, 1), (.ixor, 1), (.multianewarray 11 48, 3), (.aload 0, 1), (.iload 1, 1), (.iload 2, 1), (.multianewarray 11 48, 3), (.isub, 1), (.ireturn, 1)])]
def mX0_gainOf : ac_M := (yX0_gainOf, cX0_gainOf, 3, (some .int), 0, 0, 2, (0, 0), [], bX0_gainOf, [864, 77, 862, 863], [])
def bX0_payOfAll : List (Nat × ac_I) := [(0, [(.aload 0, 1), (.iload 1, 1), (.multianewarray 10 32, 3), (.ifCond .eq 1, 3), (.aload 0, 1), (.getfield 2, 3), (.aload 0, 1), (.getfield 1, 3), (.imul, 1), (.goto 2, 3)]),
  (20, [(.sipush (0), 1), (.goto 2, 0)]),
  (21, [(.istore 2, 1), (.iload 2, 1), (.aload 0, 1), (.iload 1, 1), (.multianewarray 14 32, 3), (.isub, 1), (.ireturn, 1)])]
def mX0_payOfAll : ac_M := (yX0_payOfAll, cX0_payOfAll, 3, (some .int), 0, 0, 1, (0, 0), [], bX0_payOfAll, [473, 77, 471, 472], [])
def bX0_costOfAll : List (Nat × ac_I) := [(0, [(.sipush (0), 1), (.istore 2, 1), (.sipush (0), 1), (.istore 3, 1), (.goto 1, 0)]),
  (4, [(.iload 3, 1), (.aload 0, 1), (.getfield 4, 3), (.if_icmp .ge 4, 3), (.iload 2, 1), (.aload 0, 1), (.iload 1, 1), (.iload 3, 1), (.multianewarray 8 48, 3), (.ifCond .eq 2, 3), (.aload 0, 1), (.getfield 12, 3), (.iload 3, 1), (.iaload, 1), (.goto 3, 3)]),
  (31, [(.sipush (0), 1), (.goto 3, 0)]),
  (32, [(.iadd, 1), (.istore 2, 1), (.iinc 3 (1), 3), (.goto 1, 3)]),
  (40, [(.iload 2, 1), (.ireturn, 1)])]
def mX0_costOfAll : ac_M := (yX0_costOfAll, cX0_costOfAll, 4, (some .int), 0, 0, 1, (0, 0), [], bX0_costOfAll, [477, 77, 475, 476], [])
def bX0_bribeFor : List (Nat × ac_I) := [(0, [(.sipush (0), 1), (.istore 2, 1), (.sipush (0), 1), (.istore 3, 1), (.goto 1, 0)]),
  (4, [(.iload 3, 1), (.aload 0, 1), (.getfield 4, 3), (.if_icmp .ge 2, 3), (.iload 2, 1), (.sipush (0), 1), (.aload 0, 1), (.iload 3, 1), (.iload 1, 1), (.multianewarray 12 48, 3), (.invokeinterface 253 2, 3), (.iadd, 1), (.istore 2, 1), (.iinc 3 (1), 3), (.goto 1, 3)]),
  (31, [(.iload 2, 1), (.ireturn, 1)])]
def mX0_bribeFor : ac_M := (yX0_bribeFor, cX0_bribeFor, 4, (some .int), 0, 0, 1, (0, 0), [], bX0_bribeFor, [958, 77, 956, 957], [])
def bX0_eager : List (Nat × ac_I) := [(0, [(.iload 1, 1), (.invokeinterface 249 1, 3), (.istore 2, 1), (.iload 2, 1), (.aload 0, 1), (.getfield 1, 3), (.if_icmp .ne 1, 3), (.iload 1, 1), (.aload 0, 1), (.getfield 9, 3), (.iand, 1), (.ireturn, 1)]),
  (20, [(.iload 1, 1), (.aload 0, 1), (.getfield 8, 3), (.iand, 1), (.istore 3, 1), (.iload 2, 1), (.sipush (1), 1), (.iadd, 1), (.aload 0, 1), (.getfield 1, 3), (.if_icmp .ne 2, 3), (.iload 3, 1), (.aload 0, 1), (.getfield 7, 3), (.iload 1, 1), (.sipush (-1), 1), (.ixor, 1), (.iand, 1), (.ior, 1), (.goto 3, 3)]),
  (50, [(.iload 3, 1), (.goto 3, 0)]),
  (51, [(.ireturn, 1)])]
def mX0_eager : ac_M := (yX0_eager, cX0_eager, 4, (some .int), 0, 0, 1, (0, 0), [], bX0_eager, [443, 77, 441, 442], [])
def bX0_isStrong : List (Nat × ac_I) := [(0, [(.aload 0, 1), (.iload 1, 1), (.multianewarray 16 32, 3), (.ifCond .eq 1, 3), (.sipush (0), 1), (.ireturn, 1)]),
  (10, [(.iload 1, 1), (.invokeinterface 249 1, 3), (.sipush (2), 1), (.iadd, 1), (.aload 0, 1), (.getfield 1, 3), (.if_icmp .ne 2, 3), (.sipush (1), 1), (.goto 3, 3)]),
  (27, [(.sipush (0), 1), (.goto 3, 0)]),
  (28, [(.istore 2, 1), (.iload 2, 1), (.ifCond .eq 4, 3), (.aload 0, 1), (.getfield 7, 3), (.iload 1, 1), (.sipush (-1), 1), (.ixor, 1), (.iand, 1), (.invokeinterface 249 1, 3), (.sipush (2), 1), (.if_icmp .ge 5, 3), (.goto 4, 0)]),
  (48, [(.sipush (1), 1), (.goto 6, 3)]),
  (52, [(.sipush (0), 1), (.goto 6, 0)]),
  (53, [(.ireturn, 1)])]
def mX0_isStrong : ac_M := (yX0_isStrong, cX0_isStrong, 3, (some .boolean), 0, 0, 1, (0, 0), [], bX0_isStrong, [451, 77, 449, 450], [])
def bX0_thoughts : List (Nat × ac_I) := [(0, [(.iload 1, 1), (.istore 3, 1), (.sipush (0), 1), (.istore 4, 2), (.goto 1, 0)]),
  (5, [(.iload 4, 2), (.iload 2, 1), (.if_icmp .ge 6, 3), (.iload 3, 1), (.invokeinterface 249 1, 3), (.istore 5, 2), (.iload 5, 2), (.aload 0, 1), (.getfield 1, 3), (.if_icmp .ne 2, 3), (.iload 3, 1), (.aload 0, 1), (.getfield 7, 3), (.iand, 1), (.istore 3, 1), (.goto 5, 3)]),
  (36, [(.iload 5, 2), (.sipush (1), 1), (.iadd, 1), (.aload 0, 1), (.getfield 1, 3), (.if_icmp .ne 3, 3), (.aload 0, 1), (.getfield 7, 3), (.iload 3, 1), (.sipush (-1), 1), (.ixor, 1), (.iand, 1), (.goto 4, 3)]),
  (58, [(.sipush (0), 1), (.goto 4, 0)]),
  (59, [(.istore 3, 1), (.goto 5, 0)]),
  (60, [(.iinc 4 (1), 3), (.goto 1, 3)]),
  (66, [(.iload 3, 1), (.ireturn, 1)])]
def mX0_thoughts : ac_M := (yX0_thoughts, cX0_thoughts, 6, (some .int), 0, 0, 2, (0, 0), [], bX0_thoughts, [425, 77, 423, 424], [])
def bX0_hatsAhead : List (Nat × ac_I) := [(0, [(.iload 2, 1), (.aload 0, 1), (.getfield 5, 3), (.ior, 1), (.sipush (1), 1), (.iload 1, 1), (.ishl, 1), (.sipush (1), 1), (.isub, 1), (.iand, 1), (.ireturn, 1)])]
def mX0_hatsAhead : ac_M := (yX0_hatsAhead, cX0_hatsAhead, 3, (some .int), 0, 0, 2, (0, 0), [], bX0_hatsAhead, [412, 77, 410, 411], [])
def bX0_comesBySeeing : List (Nat × ac_I) := [(0, [(.aload 0, 1), (.getfield 10, 3), (.iload 1, 1), (.iaload, 1), (.sipush (7), 2), (.if_icmp .ne 2, 3), (.iload 2, 1), (.aload 0, 1), (.getfield 11, 3), (.iload 1, 1), (.iaload, 1), (.if_icmp .ge 1, 3), (.sipush (1), 1), (.goto 4, 3)]),
  (25, [(.sipush (0), 1), (.goto 4, 3)]),
  (29, [(.iload 2, 1), (.aload 0, 1), (.getfield 11, 3), (.iload 1, 1), (.iaload, 1), (.if_icmp .ne 3, 3), (.sipush (1), 1), (.goto 4, 3)]),
  (43, [(.sipush (0), 1), (.goto 4, 0)]),
  (44, [(.ireturn, 1)])]
def mX0_comesBySeeing : ac_M := (yX0_comesBySeeing, cX0_comesBySeeing, 3, (some .boolean), 0, 0, 2, (0, 0), [], bX0_comesBySeeing, [421, 77, 419, 420], [])
def bX0_hasLearner : List (Nat × ac_I) := [(0, [(.sipush (0), 1), (.istore 1, 1), (.goto 1, 0)]),
  (2, [(.iload 1, 1), (.aload 0, 1), (.getfield 4, 3), (.if_icmp .ge 3, 3), (.aload 0, 1), (.getfield 10, 3), (.iload 1, 1), (.iaload, 1), (.sipush (10), 2), (.if_icmp .ne 2, 3), (.sipush (1), 1), (.ireturn, 1)]),
  (23, [(.iinc 1 (1), 3), (.goto 1, 3)]),
  (29, [(.sipush (0), 1), (.ireturn, 1)])]
def mX0_hasLearner : ac_M := (yX0_hasLearner, cX0_hasLearner, 2, (some .boolean), 0, 0, 0, (0, 0), [], bX0_hasLearner, [1051, 77, 1049, 1050], [])
def bX0_roundOfWeeks : List (Nat × ac_I) := [(0, [(.sipush (1), 1), (.istore 1, 1), (.sipush (0), 1), (.istore 2, 1), (.goto 1, 0)]),
  (4, [(.iload 2, 1), (.aload 0, 1), (.getfield 4, 3), (.if_icmp .ge 3, 3), (.aload 0, 1), (.getfield 10, 3), (.iload 2, 1), (.iaload, 1), (.sipush (6), 2), (.if_icmp .ne 2, 3), (.iload 1, 1), (.aload 0, 1), (.getfield 11, 3), (.iload 2, 1), (.iaload, 1), (.invokeinterface 23 2, 3), (.istore 1, 1), (.goto 2, 0)]),
  (34, [(.iinc 2 (1), 3), (.goto 1, 3)]),
  (40, [(.iload 1, 1), (.ireturn, 1)])]
def mX0_roundOfWeeks : ac_M := (yX0_roundOfWeeks, cX0_roundOfWeeks, 3, (some .int), 0, 0, 0, (0, 0), [], bX0_roundOfWeeks, [1055, 77, 1053, 1054], [])
def bX0_leastMultiple : List (Nat × ac_I) := [(0, [(.sipush (1), 1), (.istore 2, 1), (.goto 1, 0)]),
  (2, [(.iload 2, 1), (.iload 1, 1), (.if_icmp .gt 3, 3), (.iload 0, 1), (.iload 2, 1), (.imul, 1), (.iload 1, 1), (.irem, 1), (.ifCond .ne 2, 3), (.iload 0, 1), (.iload 2, 1), (.imul, 1), (.ireturn, 1)]),
  (19, [(.iinc 2 (1), 3), (.goto 1, 3)]),
  (25, [(.iload 0, 1), (.ireturn, 1)])]
def mX0_leastMultiple : ac_M := (yX0_leastMultiple, cX0_leastMultiple, 3, (some .int), 0, 1, 2, (0, 0), [], bX0_leastMultiple, [1058, 77, 1057], [])
def bX0_weeksOf : List (Nat × ac_I) := [(0, [(.sipush (0), 1), (.istore 2, 1), (.sipush (0), 1), (.istore 3, 1), (.goto 1, 0)]),
  (4, [(.iload 3, 1), (.aload 0, 1), (.getfield 6, 3), (.if_icmp .ge 4, 3), (.iload 2, 1), (.aload 0, 1), (.getfield 13, 3), (.iload 3, 1), (.iaload, 1), (.iload 1, 1), (.iand, 1), (.iload 1, 1), (.if_icmp .ne 2, 3), (.sipush (1), 1), (.goto 3, 3)]),
  (29, [(.sipush (0), 1), (.goto 3, 0)]),
  (30, [(.iadd, 1), (.istore 2, 1), (.iinc 3 (1), 3), (.goto 1, 3)]),
  (38, [(.iload 2, 1), (.ireturn, 1)])]
def mX0_weeksOf : ac_M := (yX0_weeksOf, cX0_weeksOf, 4, (some .int), 0, 0, 1, (0, 0), [], bX0_weeksOf, [493, 77, 491, 492], [])
def bX0_dinnersOf : List (Nat × ac_I) := [(0, [(.sipush (0), 1), (.istore 2, 1), (.sipush (0), 1), (.istore 3, 1), (.goto 1, 0)]),
  (4, [(.iload 3, 1), (.aload 0, 1), (.getfield 6, 3), (.if_icmp .ge 4, 3), (.iload 2, 1), (.aload 0, 1), (.aload 0, 1), (.getfield 13, 3), (.iload 3, 1), (.iaload, 1), (.iload 1, 1), (.multianewarray 8 48, 3), (.ifCond .eq 2, 3), (.aload 0, 1), (.aload 0, 1), (.getfield 13, 3), (.iload 3, 1), (.iaload, 1), (.multianewarray 10 32, 3), (.ifCond .eq 2, 3), (.sipush (1), 1), (.goto 3, 3)]),
  (44, [(.sipush (0), 1), (.goto 3, 0)]),
  (45, [(.iadd, 1), (.istore 2, 1), (.iinc 3 (1), 3), (.goto 1, 3)]),
  (53, [(.iload 2, 1), (.ireturn, 1)])]
def mX0_dinnersOf : ac_M := (yX0_dinnersOf, cX0_dinnersOf, 4, (some .int), 0, 0, 1, (0, 0), [], bX0_dinnersOf, [738, 77, 736, 737], [])
def bX0_weeksMet : List (Nat × ac_I) := [(0, [(.aload 0, 1), (.aload 0, 1), (.getfield 1, 3), (.aload 0, 1), (.getfield 6, 3), (.multianewarray 27 48, 3), (.ireturn, 1)])]
def mX0_weeksMet : ac_M := (yX0_weeksMet, cX0_weeksMet, 1, (some .int), 0, 0, 0, (0, 0), [], bX0_weeksMet, [501, 77, 499, 500], [])
def bX0_weeksOfJust : List (Nat × ac_I) := [(0, [(.sipush (0), 1), (.istore 3, 1), (.sipush (0), 1), (.istore 4, 2), (.goto 1, 0)]),
  (5, [(.iload 4, 2), (.iload 2, 1), (.if_icmp .ge 4, 3), (.iload 3, 1), (.aload 0, 1), (.getfield 13, 3), (.iload 4, 2), (.iaload, 1), (.invokeinterface 249 1, 3), (.iload 1, 1), (.if_icmp .ne 2, 3), (.sipush (1), 1), (.goto 3, 3)]),
  (30, [(.sipush (0), 1), (.goto 3, 0)]),
  (31, [(.iadd, 1), (.istore 3, 1), (.iinc 4 (1), 3), (.goto 1, 3)]),
  (39, [(.iload 3, 1), (.ireturn, 1)])]
def mX0_weeksOfJust : ac_M := (yX0_weeksOfJust, cX0_weeksOfJust, 5, (some .int), 0, 0, 2, (0, 0), [], bX0_weeksOfJust, [485, 77, 483, 484], [])
def bX0_guessOf : List (Nat × ac_I) := [(0, [(.iload 2, 1), (.ifCond .gt 1, 3), (.sipush (-1), 1), (.ireturn, 1)]),
  (6, [(.iload 1, 1), (.tableswitch 5 0 2 #[2, 3, 4], 25)]),
  (32, [(.aload 0, 1), (.getfield 13, 3), (.iload 2, 1), (.sipush (1), 1), (.isub, 1), (.iaload, 1), (.invokeinterface 249 1, 3), (.ireturn, 1)]),
  (44, [(.aload 0, 1), (.iload 2, 1), (.multianewarray 29 32, 3), (.iload 2, 1), (.idiv, 1), (.ireturn, 1)]),
  (52, [(.aload 0, 1), (.iload 2, 1), (.multianewarray 30 32, 3), (.ireturn, 1)]),
  (58, [(.aload 0, 1), (.getfield 1, 3), (.ireturn, 1)])]
def mX0_guessOf : ac_M := (yX0_guessOf, cX0_guessOf, 3, (some .int), 0, 0, 2, (0, 0), [], bX0_guessOf, [1129, 77, 1127, 1128], [])
def bX0_comersUntil : List (Nat × ac_I) := [(0, [(.sipush (0), 1), (.istore 2, 1), (.sipush (0), 1), (.istore 3, 1), (.goto 1, 0)]),
  (4, [(.iload 3, 1), (.iload 1, 1), (.if_icmp .ge 2, 3), (.iload 2, 1), (.aload 0, 1), (.getfield 13, 3), (.iload 3, 1), (.iaload, 1), (.invokeinterface 249 1, 3), (.iadd, 1), (.istore 2, 1), (.iinc 3 (1), 3), (.goto 1, 3)]),
  (27, [(.iload 2, 1), (.ireturn, 1)])]
def mX0_comersUntil : ac_M := (yX0_comersUntil, cX0_comersUntil, 4, (some .int), 0, 0, 1, (0, 0), [], bX0_comersUntil, [1133, 77, 1132, 24], [])
def bX0_mostOftenUntil : List (Nat × ac_I) := [(0, [(.sipush (0), 1), (.istore 2, 1), (.sipush (0), 1), (.istore 3, 1), (.sipush (0), 1), (.istore 4, 2), (.goto 1, 0)]),
  (7, [(.iload 4, 2), (.aload 0, 1), (.getfield 4, 3), (.if_icmp .gt 3, 3), (.aload 0, 1), (.iload 4, 2), (.iload 1, 1), (.multianewarray 27 48, 3), (.istore 5, 2), (.iload 5, 2), (.iload 3, 1), (.if_icmp .le 2, 3), (.iload 4, 2), (.istore 2, 1), (.iload 5, 2), (.istore 3, 1), (.goto 2, 0)]),
  (37, [(.iinc 4 (1), 3), (.goto 1, 3)]),
  (43, [(.iload 2, 1), (.ireturn, 1)])]
def mX0_mostOftenUntil : ac_M := (yX0_mostOftenUntil, cX0_mostOftenUntil, 6, (some .int), 0, 0, 1, (0, 0), [], bX0_mostOftenUntil, [1137, 77, 1136, 25], [])
def bX1_init : List (Nat × ac_I) := [(0, [(.aload 0, 1), (.monitorexit, 3), (.aload 0, 1), (.sipush (12), 2), (.newarray .int, 2), (.putfield 37, 3), (.aload 0, 1), (.aload 1, 1), (.putfield 32, 3), (.return_, 1)])]
def mX1_init : ac_M := (yX1_init, cX1_init, 2, none, 1, 2, 1, (1, 12), [], bX1_init, [227, 79, 226], [])
def bX1_start : List (Nat × ac_I) := [(0, [(.aload 0, 1), (.aload 1, 1), (.putfield 32, 3), (.aload 0, 1), (.aload 1, 1), (.getfield 6, 3), (.putfield 33, 3), (.aload 0, 1), (.aload 1, 1), (.multianewarray 9 16, 3), (.putfield 34, 3), (.aload 0, 1), (.sipush (0), 1), (.putfield 35, 3), (.sipush (0), 1), (.istore 2, 1), (.goto 1, 0)]),
  (28, [(.iload 2, 1), (.aload 1, 1), (.getfield 4, 3), (.if_icmp .ge 3, 3), (.aload 0, 1), (.getfield 37, 3), (.iload 2, 1), (.sipush (0), 1), (.iastore, 1), (.aload 1, 1), (.getfield 10, 3), (.iload 2, 1), (.iaload, 1), (.sipush (10), 2), (.if_icmp .ne 2, 3), (.aload 0, 1), (.iload 2, 1), (.multianewarray 33 33, 3), (.goto 2, 0)]),
  (59, [(.iinc 2 (1), 3), (.goto 1, 3)]),
  (65, [(.return_, 1)])]
def mX1_start : ac_M := (yX1_start, cX1_start, 3, none, 1, 0, 1, (0, 0), [], bX1_start, [372, 79, 370, 371], [])
def bX1_recall : List (Nat × ac_I) := [(0, [(.sipush (0), 1), (.istore 2, 1), (.goto 1, 0)]),
  (2, [(.iload 2, 1), (.aload 0, 1), (.getfield 32, 3), (.getfield 6, 3), (.if_icmp .ge 2, 3), (.aload 0, 1), (.getfield 37, 3), (.iload 1, 1), (.dup2, 1), (.iaload, 1), (.aload 0, 1), (.getfield 32, 3), (.iload 1, 1), (.aload 0, 1), (.getfield 32, 3), (.getfield 13, 3), (.iload 2, 1), (.iaload, 1), (.sipush (1), 1), (.iload 1, 1), (.ishl, 1), (.ior, 1), (.multianewarray 11 48, 3), (.iadd, 1), (.iastore, 1), (.iinc 2 (1), 3), (.goto 1, 3)]),
  (49, [(.return_, 1)])]
def mX1_recall : ac_M := (yX1_recall, cX1_recall, 3, none, 1, 0, 1, (0, 0), [], bX1_recall, [380, 79, 379, 0], [])
def ms0 : List ac_M := [mX0_init, mX0_clear, mX0_join, mX0_weigh, mX0_become, mX0_giveRule, mX0_addWeek, mX0_everyone, mX0_has, mX0_lastSet, mX0_meets, mX0_payOf, mX0_gainOf, mX0_payOfAll, mX0_costOfAll, mX0_bribeFor, mX0_eager, mX0_isStrong, mX0_thoughts, mX0_hatsAhead, mX0_comesBySeeing, mX0_hasLearner, mX0_roundOfWeeks, mX0_leastMultiple, mX0_weeksOf, mX0_dinnersOf, mX0_weeksMet, mX0_weeksOfJust, mX0_guessOf, mX0_comersUntil, mX0_mostOftenUntil, mX1_init, mX1_start, mX1_recall]
def bX1_go : List (Nat × ac_I) := [(0, [(.aload 0, 1), (.multianewarray 36 17, 3), (.istore 1, 1), (.sipush (0), 1), (.istore 2, 1), (.goto 1, 0)]),
  (7, [(.iload 2, 1), (.aload 0, 1), (.getfield 32, 3), (.getfield 4, 3), (.if_icmp .ge 3, 3), (.aload 0, 1), (.getfield 32, 3), (.getfield 10, 3), (.iload 2, 1), (.iaload, 1), (.sipush (10), 2), (.if_icmp .ne 2, 3), (.aload 0, 1), (.getfield 37, 3), (.iload 2, 1), (.dup2, 1), (.iaload, 1), (.aload 0, 1), (.getfield 32, 3), (.iload 2, 1), (.iload 1, 1), (.sipush (1), 1), (.iload 2, 1), (.ishl, 1), (.ior, 1), (.multianewarray 11 48, 3), (.iadd, 1), (.iastore, 1), (.goto 2, 0)]),
  (54, [(.iinc 2 (1), 3), (.goto 1, 3)]),
  (60, [(.aload 0, 1), (.iload 1, 1), (.putfield 34, 3), (.aload 0, 1), (.dup, 1), (.getfield 33, 3), (.sipush (1), 1), (.iadd, 1), (.putfield 33, 3), (.iload 1, 1), (.ireturn, 1)])]
def mX1_go : ac_M := (yX1_go, cX1_go, 3, (some .int), 1, 0, 0, (0, 0), [], bX1_go, [853, 79, 851, 852], [])
def bX1_comersInFog : List (Nat × ac_I) := [(0, [(.aload 0, 1), (.sipush (1), 1), (.putfield 35, 3), (.aload 0, 1), (.iload 1, 1), (.putfield 36, 3), (.aload 0, 1), (.multianewarray 36 17, 3), (.ireturn, 1)])]
def mX1_comersInFog : ac_M := (yX1_comersInFog, cX1_comersInFog, 2, (some .int), 1, 0, 1, (0, 0), [], bX1_comersInFog, [776, 79, 774, 775], [])
def bX1_comers : List (Nat × ac_I) := [(0, [(.sipush (0), 1), (.istore 1, 1), (.sipush (0), 1), (.istore 2, 1), (.goto 1, 0)]),
  (4, [(.iload 2, 1), (.aload 0, 1), (.getfield 32, 3), (.getfield 4, 3), (.if_icmp .ge 3, 3), (.aload 0, 1), (.iload 2, 1), (.iload 1, 1), (.multianewarray 37 49, 3), (.ifCond .eq 2, 3), (.iload 1, 1), (.sipush (1), 1), (.iload 2, 1), (.ishl, 1), (.ior, 1), (.istore 1, 1), (.goto 2, 0)]),
  (30, [(.iinc 2 (1), 3), (.goto 1, 3)]),
  (36, [(.iload 1, 1), (.ireturn, 1)])]
def mX1_comers : ac_M := (yX1_comers, cX1_comers, 3, (some .int), 1, 0, 0, (0, 0), [], bX1_comers, [402, 79, 400, 401], [])
def bX1_comes : List (Nat × ac_I) := [(0, [(.aload 0, 1), (.getfield 32, 3), (.getfield 11, 3), (.iload 1, 1), (.iaload, 1), (.istore 3, 1), (.aload 0, 1), (.getfield 32, 3), (.getfield 10, 3), (.iload 1, 1), (.iaload, 1), (.tableswitch 20 0 10 #[1, 20, 2, 3, 6, 9, 12, 15, 15, 16, 17], 57)]),
  (76, [(.sipush (1), 1), (.ireturn, 1)]),
  (78, [(.aload 0, 1), (.getfield 32, 3), (.aload 0, 1), (.getfield 34, 3), (.iload 1, 1), (.multianewarray 8 48, 3), (.ireturn, 1)]),
  (91, [(.aload 0, 1), (.getfield 32, 3), (.aload 0, 1), (.getfield 34, 3), (.iload 1, 1), (.multianewarray 8 48, 3), (.ifCond .ne 4, 3), (.sipush (1), 1), (.goto 5, 3)]),
  (110, [(.sipush (0), 1), (.goto 5, 0)]),
  (111, [(.ireturn, 1)]),
  (112, [(.aload 0, 1), (.getfield 34, 3), (.invokeinterface 249 1, 3), (.iload 3, 1), (.if_icmp .ge 7, 3), (.sipush (1), 1), (.goto 8, 3)]),
  (127, [(.sipush (0), 1), (.goto 8, 0)]),
  (128, [(.ireturn, 1)]),
  (129, [(.aload 0, 1), (.getfield 34, 3), (.invokeinterface 249 1, 3), (.iload 3, 1), (.if_icmp .le 10, 3), (.sipush (1), 1), (.goto 11, 3)]),
  (144, [(.sipush (0), 1), (.goto 11, 0)]),
  (145, [(.ireturn, 1)]),
  (146, [(.iload 3, 1), (.ifCond .le 13, 3), (.aload 0, 1), (.getfield 33, 3), (.iload 3, 1), (.irem, 1), (.ifCond .ne 13, 3), (.sipush (1), 1), (.goto 14, 3)]),
  (163, [(.sipush (0), 1), (.goto 14, 0)]),
  (164, [(.ireturn, 1)]),
  (165, [(.aload 0, 1), (.getfield 32, 3), (.iload 1, 1), (.aload 0, 1), (.aload 0, 1), (.getfield 32, 3), (.iload 1, 1), (.iload 2, 1), (.multianewarray 19 48, 3), (.multianewarray 38 33, 3), (.multianewarray 20 48, 3), (.ireturn, 1)]),
  (187, [(.aload 0, 1), (.getfield 32, 3), (.aload 0, 1), (.getfield 32, 3), (.aload 0, 1), (.getfield 34, 3), (.iload 3, 1), (.multianewarray 18 48, 3), (.iload 1, 1), (.multianewarray 8 48, 3), (.ireturn, 1)]),
  (208, [(.aload 0, 1), (.getfield 37, 3), (.iload 1, 1), (.iaload, 1), (.ifCond .le 18, 3), (.sipush (1), 1), (.goto 19, 3)]),
  (221, [(.sipush (0), 1), (.goto 19, 0)]),
  (222, [(.ireturn, 1)]),
  (223, [(.sipush (0), 1), (.ireturn, 1)])]
def mX1_comes : ac_M := (yX1_comes, cX1_comes, 4, (some .boolean), 1, 0, 2, (0, 0), [], bX1_comes, [406, 79, 405, 1], [])
def bX1_hatsSeen : List (Nat × ac_I) := [(0, [(.aload 0, 1), (.getfield 35, 3), (.ifCond .ne 1, 3), (.iload 1, 1), (.invokeinterface 249 1, 3), (.ireturn, 1)]),
  (12, [(.sipush (0), 1), (.istore 2, 1), (.sipush (0), 1), (.istore 3, 1), (.goto 2, 0)]),
  (16, [(.iload 3, 1), (.aload 0, 1), (.getfield 32, 3), (.getfield 4, 3), (.if_icmp .ge 6, 3), (.aload 0, 1), (.getfield 32, 3), (.iload 1, 1), (.iload 3, 1), (.multianewarray 8 48, 3), (.ifCond .eq 5, 3), (.aload 0, 1), (.sipush (1103515245), 2), (.aload 0, 1), (.getfield 36, 3), (.imul, 1), (.sipush (12345), 3), (.iadd, 1), (.putfield 36, 3), (.iload 2, 1), (.aload 0, 1), (.getfield 36, 3), (.sipush (16), 2), (.iushr, 1), (.sipush (100), 2), (.irem, 1), (.aload 0, 1), (.getfield 32, 3), (.getfield 3, 3), (.if_icmp .ge 3, 3), (.sipush (0), 1), (.goto 4, 3)]),
  (79, [(.sipush (1), 1), (.goto 4, 0)]),
  (80, [(.iadd, 1), (.istore 2, 1), (.goto 5, 0)]),
  (82, [(.iinc 3 (1), 3), (.goto 2, 3)]),
  (88, [(.iload 2, 1), (.ireturn, 1)])]
def mX1_hatsSeen : ac_M := (yX1_hatsSeen, cX1_hatsSeen, 4, (some .int), 1, 0, 1, (0, 0), [], bX1_hatsSeen, [416, 79, 415, 2], [])
def bX1_meetings : List (Nat × ac_I) := [(0, [(.aload 0, 1), (.aload 1, 1), (.multianewarray 32 33, 3), (.sipush (0), 1), (.istore 3, 1), (.sipush (0), 1), (.istore 4, 2), (.goto 1, 0)]),
  (10, [(.iload 4, 2), (.iload 2, 1), (.if_icmp .ge 4, 3), (.iload 3, 1), (.aload 1, 1), (.aload 0, 1), (.multianewarray 34 17, 3), (.multianewarray 10 32, 3), (.ifCond .eq 2, 3), (.sipush (1), 1), (.goto 3, 3)]),
  (32, [(.sipush (0), 1), (.goto 3, 0)]),
  (33, [(.iadd, 1), (.istore 3, 1), (.iinc 4 (1), 3), (.goto 1, 3)]),
  (41, [(.iload 3, 1), (.ireturn, 1)])]
def mX1_meetings : ac_M := (yX1_meetings, cX1_meetings, 5, (some .int), 1, 0, 2, (0, 0), [], bX1_meetings, [1037, 79, 1035, 1036], [])
def bX1_payAhead : List (Nat × ac_I) := [(0, [(.aload 0, 1), (.aload 1, 1), (.multianewarray 32 33, 3), (.sipush (0), 1), (.istore 4, 2), (.sipush (0), 1), (.istore 5, 2), (.goto 1, 0)]),
  (11, [(.iload 5, 2), (.iload 3, 1), (.if_icmp .ge 2, 3), (.iload 4, 2), (.aload 1, 1), (.iload 2, 1), (.aload 0, 1), (.multianewarray 34 17, 3), (.multianewarray 11 48, 3), (.iadd, 1), (.istore 4, 2), (.iinc 5 (1), 3), (.goto 1, 3)]),
  (37, [(.iload 4, 2), (.ireturn, 1)])]
def mX1_payAhead : ac_M := (yX1_payAhead, cX1_payAhead, 6, (some .int), 1, 0, 3, (0, 0), [], bX1_payAhead, [1096, 79, 1094, 1095], [])
def bX2_init : List (Nat × ac_I) := [(0, [(.aload 0, 1), (.monitorexit, 3), (.aload 0, 1), (.sipush (700), 3), (.newarray .byte, 2), (.putfield 64, 3), (.aload 0, 1), (.sipush (-1), 1), (.putfield 67, 3), (.aload 0, 1), (.aload 1, 1), (.putfield 72, 3), (.return_, 1)])]
def mX2_init : ac_M := (yX2_init, cX2_init, 2, none, 2, 2, 1, (1, 700), [], bX2_init, [189, 78, 188], [])
def bX2_lay : List (Nat × ac_I) := [(0, [(.sipush (24), 2), (.istore 2, 1), (.goto 1, 0)]),
  (3, [(.iload 2, 1), (.ifCond .lt 3, 3), (.aload 0, 1), (.getfield 65, 3), (.sipush (700), 3), (.if_icmp .ge 2, 3), (.aload 0, 1), (.getfield 64, 3), (.aload 0, 1), (.getfield 65, 3), (.iload 1, 1), (.iload 2, 1), (.ishr, 1), (.i2b, 1), (.bastore, 1), (.aload 0, 1), (.dup, 1), (.getfield 65, 3), (.sipush (1), 1), (.iadd, 1), (.putfield 65, 3), (.goto 2, 0)]),
  (40, [(.iinc 2 (-8), 3), (.goto 1, 3)]),
  (46, [(.return_, 1)])]
def mX2_lay : ac_M := (yX2_lay, cX2_lay, 3, none, 2, 0, 1, (0, 0), [], bX2_lay, [360, 78, 358, 359], [])
def bX2_read : List (Nat × ac_I) := [(0, [(.aload 0, 1), (.sipush (0), 1), (.putfield 66, 3), (.aload 0, 1), (.sipush (-1), 1), (.putfield 67, 3), (.aload 0, 1), (.iload 1, 1), (.putfield 68, 3), (.aload 0, 1), (.sipush (0), 1), (.putfield 69, 3), (.aload 0, 1), (.aload 2, 1), (.putfield 72, 3), (.aload 2, 1), (.multianewarray 1 16, 3), (.aload 0, 1), (.multianewarray 53 18, 3), (.sipush (0), 1), (.istore 3, 1), (.goto 1, 0)]),
  (35, [(.iload 3, 1), (.sipush (700), 3), (.if_icmp .ge 3, 3), (.aload 0, 1), (.getfield 70, 3), (.sipush (4), 1), (.if_icmp .eq 3, 3), (.aload 0, 1), (.multianewarray 44 18, 3), (.ifCond .ne 2, 3), (.sipush (0), 1), (.ireturn, 1)]),
  (59, [(.aload 2, 1), (.dup, 1), (.getfield 0, 3), (.sipush (1), 1), (.iadd, 1), (.putfield 0, 3), (.iinc 3 (1), 3), (.goto 1, 3)]),
  (75, [(.aload 2, 1), (.multianewarray 3 16, 3), (.sipush (1), 1), (.ireturn, 1)])]
def mX2_read : ac_M := (yX2_read, cX2_read, 4, (some .boolean), 2, 0, 2, (0, 0), [], bX2_read, [581, 78, 579, 580], [])
def bX2_readLine : List (Nat × ac_I) := [(0, [(.aload 0, 1), (.ldc 0, 2), (.multianewarray 52 34, 3), (.ifCond .eq 3, 3), (.aload 0, 1), (.multianewarray 45 18, 3), (.ifCond .eq 1, 3), (.aload 0, 1), (.multianewarray 48 18, 3), (.ifCond .eq 1, 3), (.sipush (1), 1), (.goto 2, 3)]),
  (27, [(.sipush (0), 1), (.goto 2, 0)]),
  (28, [(.ireturn, 1)]),
  (29, [(.aload 0, 1), (.ldc 14, 2), (.multianewarray 52 34, 3), (.ifCond .eq 6, 3), (.aload 0, 1), (.multianewarray 53 18, 3), (.aload 0, 1), (.getfield 72, 3), (.aload 0, 1), (.sipush (1), 1), (.sipush (12), 2), (.multianewarray 49 50, 3), (.putfield 1, 3), (.aload 0, 1), (.getfield 72, 3), (.getfield 1, 3), (.sipush (-1), 1), (.if_icmp .eq 4, 3), (.aload 0, 1), (.multianewarray 48 18, 3), (.ifCond .eq 4, 3), (.sipush (1), 1), (.goto 5, 3)]),
  (78, [(.sipush (0), 1), (.goto 5, 0)]),
  (79, [(.ireturn, 1)]),
  (80, [(.aload 0, 1), (.ldc 15, 2), (.multianewarray 52 34, 3), (.ifCond .eq 9, 3), (.aload 0, 1), (.multianewarray 53 18, 3), (.aload 0, 1), (.getfield 72, 3), (.aload 0, 1), (.sipush (0), 1), (.sipush (999), 3), (.multianewarray 49 50, 3), (.putfield 2, 3), (.aload 0, 1), (.getfield 72, 3), (.getfield 2, 3), (.sipush (-1), 1), (.if_icmp .eq 7, 3), (.aload 0, 1), (.multianewarray 48 18, 3), (.ifCond .eq 7, 3), (.sipush (1), 1), (.goto 8, 3)]),
  (130, [(.sipush (0), 1), (.goto 8, 0)]),
  (131, [(.ireturn, 1)]),
  (132, [(.aload 0, 1), (.ldc 16, 2), (.multianewarray 52 34, 3), (.ifCond .eq 12, 3), (.aload 0, 1), (.multianewarray 53 18, 3), (.aload 0, 1), (.getfield 72, 3), (.aload 0, 1), (.sipush (0), 1), (.sipush (100), 2), (.multianewarray 49 50, 3), (.putfield 3, 3), (.aload 0, 1), (.getfield 72, 3), (.getfield 3, 3), (.sipush (-1), 1), (.if_icmp .eq 10, 3), (.aload 0, 1), (.multianewarray 48 18, 3), (.ifCond .eq 10, 3), (.sipush (1), 1), (.goto 11, 3)]),
  (181, [(.sipush (0), 1), (.goto 11, 0)]),
  (182, [(.ireturn, 1)]),
  (183, [(.aload 0, 1), (.multianewarray 50 18, 3), (.ireturn, 1)])]
def mX2_readLine : ac_M := (yX2_readLine, cX2_readLine, 1, (some .boolean), 2, 0, 0, (0, 0), [], bX2_readLine, [599, 78, 598, 6], [])
def bX2_readMember : List (Nat × ac_I) := [(0, [(.aload 0, 1), (.getfield 72, 3), (.getfield 4, 3), (.sipush (12), 2), (.if_icmp .lt 1, 3), (.aload 0, 1), (.sipush (4), 1), (.multianewarray 51 34, 3), (.ireturn, 1)]),
  (18, [(.aload 0, 1), (.multianewarray 53 18, 3), (.aload 0, 1), (.multianewarray 46 18, 3), (.istore 1, 1), (.iload 1, 1), (.sipush (-1), 1), (.if_icmp .ne 2, 3), (.aload 0, 1), (.multianewarray 50 18, 3), (.ireturn, 1)]),
  (37, [(.aload 0, 1), (.multianewarray 53 18, 3), (.iload 1, 1), (.sipush (4), 1), (.if_icmp .lt 3, 3), (.iload 1, 1), (.sipush (9), 2), (.if_icmp .gt 3, 3), (.sipush (1), 1), (.goto 4, 3)]),
  (56, [(.sipush (0), 1), (.goto 4, 0)]),
  (57, [(.istore 2, 1), (.iload 2, 1), (.ifCond .eq 5, 3), (.aload 0, 1), (.getstatic 0, 3), (.iload 1, 1), (.daload, 1), (.getstatic 1, 3), (.iload 1, 1), (.saload, 1), (.multianewarray 49 50, 3), (.goto 6, 3)]),
  (79, [(.sipush (0), 1), (.goto 6, 0)]),
  (80, [(.istore 3, 1), (.iload 3, 1), (.sipush (-1), 1), (.if_icmp .ne 7, 3), (.sipush (0), 1), (.ireturn, 1)]),
  (88, [(.sipush (0), 1), (.istore 4, 2), (.aload 0, 1), (.ldc 12, 2), (.multianewarray 52 34, 3), (.ifCond .eq 8, 3), (.aload 0, 1), (.multianewarray 53 18, 3), (.aload 0, 1), (.sipush (0), 1), (.sipush (999), 3), (.multianewarray 49 50, 3), (.istore 4, 2), (.goto 8, 0)]),
  (114, [(.iload 4, 2), (.sipush (-1), 1), (.if_icmp .ne 9, 3), (.sipush (0), 1), (.ireturn, 1)]),
  (122, [(.aload 0, 1), (.ldc 13, 2), (.multianewarray 52 34, 3), (.istore 5, 2), (.iload 5, 2), (.ifCond .eq 10, 3), (.aload 0, 1), (.multianewarray 53 18, 3), (.goto 10, 0)]),
  (139, [(.aload 0, 1), (.getfield 72, 3), (.iload 1, 1), (.iload 3, 1), (.iload 4, 2), (.iload 5, 2), (.multianewarray 2 80, 3), (.sipush (1), 1), (.ireturn, 1)])]
def mX2_readMember : ac_M := (yX2_readMember, cX2_readMember, 6, (some .boolean), 2, 0, 0, (0, 0), [], bX2_readMember, [656, 78, 655, 8], [])
def bX2_ruleHere : List (Nat × ac_I) := [(0, [(.sipush (0), 1), (.istore 1, 1), (.goto 1, 0)]),
  (2, [(.iload 1, 1), (.sipush (11), 2), (.if_icmp .ge 3, 3), (.aload 0, 1), (.iload 1, 1), (.invokeinterface 47 1, 3), (.multianewarray 52 34, 3), (.ifCond .eq 2, 3), (.iload 1, 1), (.ireturn, 1)]),
  (21, [(.iinc 1 (1), 3), (.goto 1, 3)]),
  (27, [(.sipush (-1), 1), (.ireturn, 1)])]
def mX2_ruleHere : ac_M := (yX2_ruleHere, cX2_ruleHere, 2, (some .int), 2, 0, 0, (0, 0), [], bX2_ruleHere, [664, 78, 663, 10], [])
def bX2_wordOf : List (Nat × ac_I) := [(0, [(.iload 0, 1), (.tableswitch 11 0 9 #[1, 2, 3, 4, 5, 6, 7, 8, 9, 10], 55)]),
  (56, [(.ldc 1, 2), (.areturn, 1)]),
  (59, [(.ldc 2, 2), (.areturn, 1)]),
  (62, [(.ldc 3, 2), (.areturn, 1)]),
  (65, [(.ldc 4, 2), (.areturn, 1)]),
  (68, [(.ldc 5, 2), (.areturn, 1)]),
  (71, [(.ldc 6, 2), (.areturn, 1)]),
  (74, [(.ldc 7, 2), (.areturn, 1)]),
  (77, [(.ldc 8, 2), (.areturn, 1)]),
  (80, [(.ldc 9, 2), (.areturn, 1)]),
  (83, [(.ldc 10, 2), (.areturn, 1)]),
  (86, [(.ldc 11, 2), (.areturn, 1)])]
def mX2_wordOf : ac_M := (yX2_wordOf, cX2_wordOf, 1, (some (.object "java/lang/String")), 2, 1, 1, (0, 0), [], bX2_wordOf, [667, 78, 666], [])
def bX2_takeSemicolon : List (Nat × ac_I) := [(0, [(.aload 0, 1), (.getfield 70, 3), (.sipush (3), 1), (.if_icmp .eq 1, 3), (.aload 0, 1), (.multianewarray 50 18, 3), (.ireturn, 1)]),
  (13, [(.aload 0, 1), (.multianewarray 53 18, 3), (.sipush (1), 1), (.ireturn, 1)])]
def mX2_takeSemicolon : ac_M := (yX2_takeSemicolon, cX2_takeSemicolon, 1, (some .boolean), 2, 0, 0, (0, 0), [], bX2_takeSemicolon, [700, 78, 699, 13], [])
def bX2_takeNumber : List (Nat × ac_I) := [(0, [(.aload 0, 1), (.getfield 70, 3), (.sipush (2), 1), (.if_icmp .eq 1, 3), (.aload 0, 1), (.multianewarray 50 18, 3), (.pop, 1), (.sipush (-1), 1), (.ireturn, 1)]),
  (15, [(.sipush (0), 1), (.istore 3, 1), (.aload 0, 1), (.getfield 71, 3), (.istore 4, 2), (.goto 2, 0)]),
  (23, [(.iload 4, 2), (.aload 0, 1), (.getfield 69, 3), (.if_icmp .ge 3, 3), (.sipush (10), 2), (.iload 3, 1), (.imul, 1), (.aload 0, 1), (.getfield 64, 3), (.iload 4, 2), (.baload, 1), (.iadd, 1), (.sipush (48), 2), (.isub, 1), (.istore 3, 1), (.iinc 4 (1), 3), (.goto 2, 3)]),
  (54, [(.iload 3, 1), (.iload 1, 1), (.if_icmp .lt 4, 3), (.iload 3, 1), (.iload 2, 1), (.if_icmp .le 5, 3), (.goto 4, 0)]),
  (64, [(.aload 0, 1), (.sipush (3), 1), (.multianewarray 51 34, 3), (.pop, 1), (.sipush (-1), 1), (.ireturn, 1)]),
  (72, [(.aload 0, 1), (.multianewarray 53 18, 3), (.iload 3, 1), (.ireturn, 1)])]
def mX2_takeNumber : ac_M := (yX2_takeNumber, cX2_takeNumber, 5, (some .int), 2, 0, 2, (0, 0), [], bX2_takeNumber, [690, 78, 689, 12], [])
def bX2_refuseMisfit : List (Nat × ac_I) := [(0, [(.aload 0, 1), (.aload 0, 1), (.getfield 70, 3), (.ifCond .ne 1, 3), (.sipush (1), 1), (.goto 2, 3)]),
  (12, [(.sipush (2), 1), (.goto 2, 0)]),
  (13, [(.multianewarray 51 34, 3), (.ireturn, 1)])]
def mX2_refuseMisfit : ac_M := (yX2_refuseMisfit, cX2_refuseMisfit, 1, (some .boolean), 2, 0, 0, (0, 0), [], bX2_refuseMisfit, [682, 78, 681, 11], [])
def bX2_refuse : List (Nat × ac_I) := [(0, [(.aload 0, 1), (.iload 1, 1), (.putfield 66, 3), (.aload 0, 1), (.aload 0, 1), (.getfield 71, 3), (.putfield 67, 3), (.sipush (0), 1), (.ireturn, 1)])]
def mX2_refuse : ac_M := (yX2_refuse, cX2_refuse, 2, (some .boolean), 2, 0, 1, (0, 0), [], bX2_refuse, [660, 78, 659, 9], [])
def bX2_isWord : List (Nat × ac_I) := [(0, [(.aload 0, 1), (.getfield 70, 3), (.sipush (1), 1), (.if_icmp .ne 1, 3), (.aload 0, 1), (.getfield 69, 3), (.aload 0, 1), (.getfield 71, 3), (.isub, 1), (.aload 1, 1), (.invokedynamic 0, 3), (.if_icmp .eq 2, 3), (.goto 1, 0)]),
  (24, [(.sipush (0), 1), (.ireturn, 1)]),
  (26, [(.sipush (0), 1), (.istore 2, 1), (.goto 3, 0)]),
  (28, [(.iload 2, 1), (.aload 1, 1), (.invokedynamic 0, 3), (.if_icmp .ge 5, 3), (.aload 0, 1), (.getfield 64, 3), (.aload 0, 1), (.getfield 71, 3), (.iload 2, 1), (.iadd, 1), (.baload, 1), (.aload 1, 1), (.iload 2, 1), (.invokedynamic 1, 3), (.if_icmp .eq 4, 3), (.sipush (0), 1), (.ireturn, 1)]),
  (57, [(.iinc 2 (1), 3), (.goto 3, 3)]),
  (63, [(.sipush (1), 1), (.ireturn, 1)])]
def mX2_isWord : ac_M := (yX2_isWord, cX2_isWord, 3, (some .boolean), 2, 0, 1, (0, 0), [], bX2_isWord, [604, 78, 603, 7], [])
def bX2_advance : List (Nat × ac_I) := [(0, [(.aload 0, 1), (.getfield 69, 3), (.aload 0, 1), (.getfield 68, 3), (.if_icmp .ge 2, 3), (.aload 0, 1), (.getfield 64, 3), (.aload 0, 1), (.getfield 69, 3), (.baload, 1), (.sipush (32), 2), (.if_icmp .eq 1, 3), (.aload 0, 1), (.getfield 64, 3), (.aload 0, 1), (.getfield 69, 3), (.baload, 1), (.sipush (10), 2), (.if_icmp .ne 2, 3), (.goto 1, 0)]),
  (39, [(.aload 0, 1), (.dup, 1), (.getfield 69, 3), (.sipush (1), 1), (.iadd, 1), (.putfield 69, 3), (.goto 0, 3)]),
  (52, [(.aload 0, 1), (.aload 0, 1), (.getfield 69, 3), (.putfield 71, 3), (.aload 0, 1), (.getfield 69, 3), (.aload 0, 1), (.getfield 68, 3), (.if_icmp .lt 3, 3), (.aload 0, 1), (.sipush (4), 1), (.putfield 70, 3), (.goto 13, 3)]),
  (79, [(.aload 0, 1), (.getfield 64, 3), (.aload 0, 1), (.getfield 69, 3), (.baload, 1), (.invokeinterface 54 1, 3), (.ifCond .eq 5, 3), (.aload 0, 1), (.sipush (1), 1), (.putfield 70, 3), (.goto 4, 0)]),
  (99, [(.aload 0, 1), (.getfield 69, 3), (.aload 0, 1), (.getfield 68, 3), (.if_icmp .ge 13, 3), (.aload 0, 1), (.getfield 64, 3), (.aload 0, 1), (.getfield 69, 3), (.baload, 1), (.invokeinterface 54 1, 3), (.ifCond .eq 13, 3), (.aload 0, 1), (.dup, 1), (.getfield 69, 3), (.sipush (1), 1), (.iadd, 1), (.putfield 69, 3), (.goto 4, 3)]),
  (138, [(.aload 0, 1), (.getfield 64, 3), (.aload 0, 1), (.getfield 69, 3), (.baload, 1), (.invokeinterface 55 1, 3), (.ifCond .eq 10, 3), (.goto 6, 0)]),
  (153, [(.aload 0, 1), (.getfield 69, 3), (.aload 0, 1), (.getfield 68, 3), (.if_icmp .ge 7, 3), (.aload 0, 1), (.getfield 64, 3), (.aload 0, 1), (.getfield 69, 3), (.baload, 1), (.invokeinterface 55 1, 3), (.ifCond .eq 7, 3), (.aload 0, 1), (.dup, 1), (.getfield 69, 3), (.sipush (1), 1), (.iadd, 1), (.putfield 69, 3), (.goto 6, 3)]),
  (192, [(.aload 0, 1), (.aload 0, 1), (.getfield 69, 3), (.aload 0, 1), (.getfield 71, 3), (.isub, 1), (.sipush (3), 1), (.if_icmp .le 8, 3), (.sipush (0), 1), (.goto 9, 3)]),
  (210, [(.sipush (2), 1), (.goto 9, 0)]),
  (211, [(.putfield 70, 3), (.goto 13, 3)]),
  (217, [(.aload 0, 1), (.aload 0, 1), (.getfield 64, 3), (.aload 0, 1), (.getfield 69, 3), (.baload, 1), (.sipush (59), 2), (.if_icmp .ne 11, 3), (.sipush (3), 1), (.goto 12, 3)]),
  (236, [(.sipush (0), 1), (.goto 12, 0)]),
  (237, [(.putfield 70, 3), (.aload 0, 1), (.dup, 1), (.getfield 69, 3), (.sipush (1), 1), (.iadd, 1), (.putfield 69, 3), (.goto 13, 0)]),
  (250, [(.return_, 1)])]
def mX2_advance : ac_M := (yX2_advance, cX2_advance, 1, none, 2, 0, 0, (0, 0), [], bX2_advance, [589, 78, 588, 5], [])
def bX2_isLetter : List (Nat × ac_I) := [(0, [(.iload 0, 1), (.sipush (97), 2), (.if_icmp .lt 1, 3), (.iload 0, 1), (.sipush (122), 2), (.if_icmp .gt 1, 3), (.sipush (1), 1), (.goto 2, 3)]),
  (16, [(.sipush (0), 1), (.goto 2, 0)]),
  (17, [(.ireturn, 1)])]
def mX2_isLetter : ac_M := (yX2_isLetter, cX2_isLetter, 1, (some .boolean), 2, 1, 1, (0, 0), [], bX2_isLetter, [592, 78, 591], [])
def bX2_isDigit : List (Nat × ac_I) := [(0, [(.iload 0, 1), (.sipush (48), 2), (.if_icmp .lt 1, 3), (.iload 0, 1), (.sipush (57), 2), (.if_icmp .gt 1, 3), (.sipush (1), 1), (.goto 2, 3)]),
  (16, [(.sipush (0), 1), (.goto 2, 0)]),
  (17, [(.ireturn, 1)])]
def mX2_isDigit : ac_M := (yX2_isDigit, cX2_isDigit, 1, (some .boolean), 2, 1, 1, (0, 0), [], bX2_isDigit, [595, 78, 594], [])
def bX3_init : List (Nat × ac_I) := [(0, [(.aload 0, 1), (.monitorexit, 3), (.aload 0, 1), (.sipush (60), 2), (.newarray .long, 2), (.putfield 99, 3), (.return_, 1)])]
def mX3_init : ac_M := (yX3_init, cX3_init, 1, none, 3, 2, 0, (1, 60), [], bX3_init, [296, 82, 295], [])
def bX3_lay : List (Nat × ac_I) := [(0, [(.aload 0, 1), (.sipush (1), 1), (.putfield 96, 3), (.aload 0, 1), (.iload 1, 1), (.putfield 97, 3), (.aload 0, 1), (.iload 2, 1), (.putfield 98, 3), (.sipush (0), 1), (.istore 3, 1), (.goto 1, 0)]),
  (17, [(.iload 3, 1), (.sipush (60), 2), (.if_icmp .ge 2, 3), (.aload 0, 1), (.getfield 99, 3), (.iload 3, 1), (.ldc2_w 0, 1), (.lastore, 1), (.iinc 3 (1), 3), (.goto 1, 3)]),
  (36, [(.return_, 1)])]
def mX3_lay : ac_M := (yX3_lay, cX3_lay, 4, none, 3, 0, 2, (0, 0), [], bX3_lay, [1158, 82, 1156, 1157], [])
def ms1 : List ac_M := [mX1_go, mX1_comersInFog, mX1_comers, mX1_comes, mX1_hatsSeen, mX1_meetings, mX1_payAhead, mX2_init, mX2_lay, mX2_read, mX2_readLine, mX2_readMember, mX2_ruleHere, mX2_wordOf, mX2_takeSemicolon, mX2_takeNumber, mX2_refuseMisfit, mX2_refuse, mX2_isWord, mX2_advance, mX2_isLetter, mX2_isDigit, mX3_init, mX3_lay]
def bX3_put : List (Nat × ac_I) := [(0, [(.aload 0, 1), (.getfield 99, 3), (.iload 1, 1), (.aload 0, 1), (.lload 2, 1), (.multianewarray 59 35, 3), (.lastore, 1), (.aload 0, 1), (.getfield 99, 3), (.iload 1, 1), (.laload, 1), (.lreturn, 1)])]
def mX3_put : ac_M := (yX3_put, cX3_put, 4, (some .long), 3, 0, 2, (0, 0), [], bX3_put, [1185, 82, 1183, 1184], [])
def bX3_cut : List (Nat × ac_I) := [(0, [(.aload 0, 1), (.getfield 97, 3), (.tableswitch 4 0 2 #[1, 2, 3], 28)]),
  (32, [(.lload 1, 1), (.l2i, 1), (.i2b, 1), (.i2l, 1), (.lreturn, 1)]),
  (37, [(.lload 1, 1), (.l2i, 1), (.i2s, 1), (.i2l, 1), (.lreturn, 1)]),
  (42, [(.lload 1, 1), (.l2i, 1), (.i2l, 1), (.lreturn, 1)]),
  (46, [(.lload 1, 1), (.lreturn, 1)])]
def mX3_cut : ac_M := (yX3_cut, cX3_cut, 3, (some .long), 3, 0, 1, (0, 0), [], bX3_cut, [1189, 82, 1188, 26], [])
def bX4_init : List (Nat × ac_I) := [(0, [(.aload 0, 1), (.monitorexit, 3), (.aload 0, 1), (.sipush (12), 2), (.newarray .int, 2), (.putfield 128, 3), (.aload 0, 1), (.sipush (13), 2), (.sipush (14), 2), (.swap, 4), (.putfield 129, 3), (.return_, 1)])]
def mX4_init : ac_M := (yX4_init, cX4_init, 1, none, 4, 2, 0, (15, 207), [], bX4_init, [253, 80, 252], [])
def bX4_play : List (Nat × ac_I) := [(0, [(.sipush (0), 1), (.istore 2, 1), (.goto 1, 0)]),
  (2, [(.iload 2, 1), (.aload 1, 1), (.getfield 4, 3), (.if_icmp .gt 2, 3), (.aload 0, 1), (.getfield 129, 3), (.aload 1, 1), (.getfield 4, 3), (.aaload, 1), (.iload 2, 1), (.iload 2, 1), (.iastore, 1), (.iinc 2 (1), 3), (.goto 1, 3)]),
  (28, [(.aload 1, 1), (.getfield 4, 3), (.sipush (1), 1), (.isub, 1), (.istore 2, 1), (.goto 3, 0)]),
  (35, [(.iload 2, 1), (.ifCond .lt 8, 3), (.sipush (0), 1), (.istore 3, 1), (.goto 4, 0)]),
  (41, [(.iload 3, 1), (.iload 2, 1), (.if_icmp .gt 7, 3), (.aload 0, 1), (.aload 1, 1), (.iload 2, 1), (.iload 3, 1), (.multianewarray 62 68, 3), (.ifCond .eq 5, 3), (.iload 3, 1), (.sipush (1), 1), (.iadd, 1), (.goto 6, 3)]),
  (62, [(.iload 3, 1), (.goto 6, 0)]),
  (63, [(.istore 4, 2), (.aload 0, 1), (.getfield 129, 3), (.iload 2, 1), (.aaload, 1), (.iload 3, 1), (.aload 0, 1), (.getfield 129, 3), (.iload 2, 1), (.sipush (1), 1), (.iadd, 1), (.aaload, 1), (.iload 4, 2), (.iaload, 1), (.iastore, 1), (.iinc 3 (1), 3), (.goto 4, 3)]),
  (90, [(.iinc 2 (-1), 3), (.goto 3, 3)]),
  (96, [(.sipush (0), 1), (.istore 2, 1), (.sipush (0), 1), (.istore 3, 1), (.sipush (0), 1), (.istore 4, 2), (.goto 9, 0)]),
  (103, [(.iload 4, 2), (.aload 1, 1), (.getfield 4, 3), (.if_icmp .ge 11, 3), (.aload 0, 1), (.aload 1, 1), (.iload 4, 2), (.iload 3, 1), (.multianewarray 62 68, 3), (.ifCond .eq 10, 3), (.iload 2, 1), (.sipush (1), 1), (.aload 0, 1), (.getfield 128, 3), (.iload 4, 2), (.iaload, 1), (.ishl, 1), (.ior, 1), (.istore 2, 1), (.iinc 3 (1), 3), (.goto 10, 0)]),
  (138, [(.iinc 4 (1), 3), (.goto 9, 3)]),
  (144, [(.iload 2, 1), (.ireturn, 1)])]
def mX4_play : ac_M := (yX4_play, cX4_play, 5, (some .int), 4, 0, 1, (0, 0), [], bX4_play, [460, 80, 458, 459], [])
def bX4_comesAt : List (Nat × ac_I) := [(0, [(.aload 1, 1), (.aload 1, 1), (.getfield 7, 3), (.aload 0, 1), (.getfield 128, 3), (.iload 2, 1), (.iaload, 1), (.multianewarray 8 48, 3), (.ifCond .eq 1, 3), (.aload 0, 1), (.getfield 129, 3), (.iload 2, 1), (.sipush (1), 1), (.iadd, 1), (.aaload, 1), (.iload 3, 1), (.sipush (1), 1), (.iadd, 1), (.iaload, 1), (.aload 1, 1), (.getfield 1, 3), (.if_icmp .ne 1, 3), (.sipush (1), 1), (.goto 2, 3)]),
  (40, [(.sipush (0), 1), (.goto 2, 0)]),
  (41, [(.ireturn, 1)])]
def mX4_comesAt : ac_M := (yX4_comesAt, cX4_comesAt, 4, (some .boolean), 4, 0, 3, (0, 0), [], bX4_comesAt, [464, 80, 463, 3], [])
def bX4_firstOf : List (Nat × ac_I) := [(0, [(.sipush (0), 1), (.istore 3, 1), (.goto 1, 0)]),
  (2, [(.iload 3, 1), (.aload 1, 1), (.getfield 4, 3), (.if_icmp .ge 3, 3), (.aload 1, 1), (.iload 2, 1), (.aload 0, 1), (.getfield 128, 3), (.iload 3, 1), (.iaload, 1), (.multianewarray 8 48, 3), (.ifCond .eq 2, 3), (.aload 0, 1), (.getfield 128, 3), (.iload 3, 1), (.iaload, 1), (.ireturn, 1)]),
  (31, [(.iinc 3 (1), 3), (.goto 1, 3)]),
  (37, [(.sipush (-1), 1), (.ireturn, 1)])]
def mX4_firstOf : ac_M := (yX4_firstOf, cX4_firstOf, 4, (some .int), 4, 0, 2, (0, 0), [], bX4_firstOf, [894, 80, 892, 893], [])
def bX5_init : List (Nat × ac_I) := [(0, [(.aload 0, 1), (.monitorexit, 3), (.aload 0, 1), (.sipush (8), 2), (.newarray .int, 2), (.putfield 160, 3), (.aload 0, 1), (.aload 1, 1), (.putfield 161, 3), (.return_, 1)])]
def mX5_init : ac_M := (yX5_init, cX5_init, 2, none, 5, 2, 1, (1, 8), [], bX5_init, [269, 81, 268], [])
def bX5_find : List (Nat × ac_I) := [(0, [(.aload 0, 1), (.aload 1, 1), (.iload 2, 1), (.iload 3, 1), (.multianewarray 66 69, 3), (.sipush (3), 1), (.aload 1, 1), (.getfield 4, 3), (.invokeinterface 136 2, 3), (.lstore 5, 2), (.sipush (0), 1), (.istore 7, 2), (.sipush (0), 1), (.istore 8, 2), (.goto 1, 0)]),
  (23, [(.iload 8, 2), (.i2l, 1), (.lload 5, 2), (.lcmp, 1), (.ifCond .ge 4, 3), (.aload 0, 1), (.multianewarray 67 21, 3), (.ifCond .eq 3, 3), (.iload 7, 2), (.iload 4, 2), (.if_icmp .ne 2, 3), (.iload 8, 2), (.ireturn, 1)]),
  (49, [(.iinc 7 (1), 3), (.goto 3, 0)]),
  (52, [(.aload 0, 1), (.multianewarray 69 21, 3), (.iinc 8 (1), 3), (.goto 1, 3)]),
  (62, [(.iload 4, 2), (.sipush (-1), 1), (.if_icmp .ne 5, 3), (.iload 7, 2), (.goto 6, 3)]),
  (73, [(.sipush (-1), 1), (.goto 6, 0)]),
  (74, [(.ireturn, 1)])]
def mX5_find : ac_M := (yX5_find, cX5_find, 9, (some .int), 5, 0, 4, (0, 0), [], bX5_find, [905, 81, 903, 904], [])
def bX5_begin : List (Nat × ac_I) := [(0, [(.aload 0, 1), (.aload 1, 1), (.putfield 161, 3), (.aload 0, 1), (.iload 2, 1), (.putfield 162, 3), (.aload 0, 1), (.iload 3, 1), (.putfield 163, 3), (.aload 0, 1), (.sipush (0), 1), (.putfield 164, 3), (.aload 0, 1), (.sipush (0), 1), (.putfield 165, 3), (.sipush (0), 1), (.istore 4, 2), (.goto 1, 0)]),
  (28, [(.iload 4, 2), (.sipush (8), 2), (.if_icmp .ge 2, 3), (.aload 0, 1), (.getfield 160, 3), (.iload 4, 2), (.sipush (0), 1), (.iastore, 1), (.iinc 4 (1), 3), (.goto 1, 3)]),
  (49, [(.return_, 1)])]
def mX5_begin : ac_M := (yX5_begin, cX5_begin, 5, none, 5, 0, 3, (0, 0), [], bX5_begin, [909, 81, 908, 20], [])
def bX5_isAtRest : List (Nat × ac_I) := [(0, [(.sipush (0), 1), (.istore 1, 1), (.goto 1, 0)]),
  (2, [(.iload 1, 1), (.aload 0, 1), (.getfield 161, 3), (.getfield 4, 3), (.if_icmp .ge 10, 3), (.aload 0, 1), (.getfield 164, 3), (.aload 0, 1), (.getfield 160, 3), (.iload 1, 1), (.iaload, 1), (.sipush (1), 1), (.if_icmp .ne 2, 3), (.sipush (0), 1), (.goto 3, 3)]),
  (31, [(.sipush (1), 1), (.goto 3, 0)]),
  (32, [(.iadd, 1), (.aload 0, 1), (.getfield 161, 3), (.getfield 1, 3), (.aload 0, 1), (.getfield 161, 3), (.getfield 2, 3), (.invokeinterface 68 3, 3), (.aload 0, 1), (.getfield 161, 3), (.getfield 12, 3), (.iload 1, 1), (.iaload, 1), (.isub, 1), (.istore 2, 1), (.aload 0, 1), (.getfield 165, 3), (.aload 0, 1), (.getfield 160, 3), (.iload 1, 1), (.iaload, 1), (.sipush (2), 1), (.if_icmp .ne 4, 3), (.sipush (0), 1), (.goto 5, 3)]),
  (79, [(.sipush (1), 1), (.goto 5, 0)]),
  (80, [(.iadd, 1), (.aload 0, 1), (.getfield 162, 3), (.aload 0, 1), (.getfield 163, 3), (.invokeinterface 68 3, 3), (.aload 0, 1), (.getfield 161, 3), (.getfield 12, 3), (.iload 1, 1), (.iaload, 1), (.isub, 1), (.istore 3, 1), (.sipush (0), 1), (.iload 2, 1), (.iload 3, 1), (.invokeinterface 253 2, 3), (.invokeinterface 253 2, 3), (.istore 4, 2), (.aload 0, 1), (.getfield 160, 3), (.iload 1, 1), (.iaload, 1), (.ifCond .ne 6, 3), (.sipush (0), 1), (.goto 8, 3)]),
  (127, [(.aload 0, 1), (.getfield 160, 3), (.iload 1, 1), (.iaload, 1), (.sipush (1), 1), (.if_icmp .ne 7, 3), (.iload 2, 1), (.goto 8, 3)]),
  (141, [(.iload 3, 1), (.goto 8, 0)]),
  (142, [(.istore 5, 2), (.iload 4, 2), (.iload 5, 2), (.if_icmp .le 9, 3), (.sipush (0), 1), (.ireturn, 1)]),
  (153, [(.iinc 1 (1), 3), (.goto 1, 3)]),
  (159, [(.sipush (1), 1), (.ireturn, 1)])]
def mX5_isAtRest : ac_M := (yX5_isAtRest, cX5_isAtRest, 6, (some .boolean), 5, 0, 0, (0, 0), [], bX5_isAtRest, [916, 81, 915, 21], [])
def bX5_payIn : List (Nat × ac_I) := [(0, [(.iload 0, 1), (.iload 1, 1), (.if_icmp .ne 1, 3), (.iload 2, 1), (.goto 2, 3)]),
  (9, [(.sipush (0), 1), (.goto 2, 0)]),
  (10, [(.ireturn, 1)])]
def mX5_payIn : ac_M := (yX5_payIn, cX5_payIn, 3, (some .int), 5, 1, 3, (0, 0), [], bX5_payIn, [919, 81, 918], [])
def bX5_turnOn : List (Nat × ac_I) := [(0, [(.sipush (0), 1), (.istore 1, 1), (.goto 1, 0)]),
  (2, [(.iload 1, 1), (.aload 0, 1), (.getfield 161, 3), (.getfield 4, 3), (.if_icmp .ge 4, 3), (.aload 0, 1), (.getfield 160, 3), (.iload 1, 1), (.iaload, 1), (.ifCond .ne 2, 3), (.aload 0, 1), (.getfield 160, 3), (.iload 1, 1), (.sipush (1), 1), (.iastore, 1), (.aload 0, 1), (.dup, 1), (.getfield 164, 3), (.sipush (1), 1), (.iadd, 1), (.putfield 164, 3), (.return_, 1)]),
  (40, [(.aload 0, 1), (.getfield 160, 3), (.iload 1, 1), (.iaload, 1), (.sipush (1), 1), (.if_icmp .ne 3, 3), (.aload 0, 1), (.getfield 160, 3), (.iload 1, 1), (.sipush (2), 1), (.iastore, 1), (.aload 0, 1), (.dup, 1), (.getfield 164, 3), (.sipush (1), 1), (.isub, 1), (.putfield 164, 3), (.aload 0, 1), (.dup, 1), (.getfield 165, 3), (.sipush (1), 1), (.iadd, 1), (.putfield 165, 3), (.return_, 1)]),
  (78, [(.aload 0, 1), (.getfield 160, 3), (.iload 1, 1), (.sipush (0), 1), (.iastore, 1), (.aload 0, 1), (.dup, 1), (.getfield 165, 3), (.sipush (1), 1), (.isub, 1), (.putfield 165, 3), (.iinc 1 (1), 3), (.goto 1, 3)]),
  (101, [(.return_, 1)])]
def mX5_turnOn : ac_M := (yX5_turnOn, cX5_turnOn, 2, none, 5, 0, 0, (0, 0), [], bX5_turnOn, [926, 81, 925, 22], [])
def bX6_init : List (Nat × ac_I) := [(0, [(.aload 0, 1), (.monitorexit, 3), (.aload 0, 1), (.new 0, 3), (.dup, 1), (.dload 1, 3), (.putfield 192, 3), (.aload 0, 1), (.new 0, 3), (.dup, 1), (.dload 1, 3), (.putfield 193, 3), (.aload 0, 1), (.new 0, 3), (.dup, 1), (.dload 1, 3), (.putfield 194, 3), (.aload 0, 1), (.new 2, 3), (.dup, 1), (.aload 0, 1), (.getfield 193, 3), (.dload 658, 3), (.putfield 195, 3), (.aload 0, 1), (.new 1, 3), (.dup, 1), (.aload 0, 1), (.getfield 194, 3), (.dload 498, 3), (.putfield 196, 3), (.aload 0, 1), (.new 4, 3), (.dup, 1), (.dload 961, 3), (.putfield 197, 3), (.aload 0, 1), (.new 5, 3), (.dup, 1), (.aload 0, 1), (.getfield 194, 3), (.dload 1026, 3), (.putfield 198, 3), (.aload 0, 1), (.sipush (4), 1), (.anewarray 5, 3), (.putfield 199, 3), (.aload 0, 1), (.sipush (3), 1), (.anewarray 6, 3), (.putfield 200, 3), (.aload 0, 1), (.sipush (3), 1), (.newarray .boolean, 2), (.putfield 201, 3), (.aload 0, 1), (.sipush (401), 3), (.newarray .int, 2), (.putfield 202, 3), (.aload 0, 1), (.sipush (13), 2), (.newarray .long, 2), (.putfield 203, 3), (.sipush (0), 1), (.istore 1, 1), (.goto 1, 0)]),
  (135, [(.iload 1, 1), (.sipush (4), 1), (.if_icmp .ge 2, 3), (.aload 0, 1), (.getfield 199, 3), (.iload 1, 1), (.new 3, 3), (.dup, 1), (.dload 897, 3), (.aastore, 1), (.iinc 1 (1), 3), (.goto 1, 3)]),
  (159, [(.sipush (0), 1), (.istore 1, 1), (.goto 3, 0)]),
  (161, [(.iload 1, 1), (.sipush (3), 1), (.if_icmp .ge 4, 3), (.aload 0, 1), (.getfield 200, 3), (.iload 1, 1), (.new 0, 3), (.dup, 1), (.dload 1, 3), (.aastore, 1), (.iinc 1 (1), 3), (.goto 3, 3)]),
  (185, [(.return_, 1)])]
def mX6_init : ac_M := (yX6_init, cX6_init, 2, none, 6, 2, 0, (65, 2290), [], bX6_init, [102, 76, 101], [])
def bX6_feed : List (Nat × ac_I) := [(0, [(.aload 0, 1), (.getfield 195, 3), (.getfield 65, 3), (.sipush (20), 2), (.iadd, 1), (.sipush (700), 3), (.if_icmp .le 1, 3), (.sipush (-1), 1), (.ireturn, 1)]),
  (18, [(.aload 0, 1), (.getfield 195, 3), (.iload 1, 1), (.multianewarray 42 34, 3), (.aload 0, 1), (.getfield 195, 3), (.iload 2, 1), (.multianewarray 42 34, 3), (.aload 0, 1), (.getfield 195, 3), (.iload 3, 1), (.multianewarray 42 34, 3), (.aload 0, 1), (.getfield 195, 3), (.iload 4, 2), (.multianewarray 42 34, 3), (.aload 0, 1), (.getfield 195, 3), (.iload 5, 2), (.multianewarray 42 34, 3), (.aload 0, 1), (.getfield 195, 3), (.getfield 65, 3), (.ireturn, 1)])]
def mX6_feed : ac_M := (yX6_feed, cX6_feed, 6, (some .int), 6, 0, 5, (0, 0), [], bX6_feed, [356, 76, 354, 355], [])
def bX6_club : List (Nat × ac_I) := [(0, [(.iload 1, 1), (.sipush (0), 1), (.aload 0, 1), (.getfield 195, 3), (.getfield 65, 3), (.ret 1987, 3), (.aload 0, 1), (.getfield 195, 3), (.iload 1, 1), (.aload 0, 1), (.getfield 193, 3), (.multianewarray 43 50, 3), (.istore 2, 1), (.aload 0, 1), (.getfield 195, 3), (.sipush (0), 1), (.putfield 65, 3), (.iload 2, 1), (.ifCond .ne 1, 3), (.sipush (-10), 2), (.aload 0, 1), (.getfield 195, 3), (.getfield 66, 3), (.isub, 1), (.ireturn, 1)]),
  (48, [(.aload 0, 1), (.getfield 192, 3), (.astore 3, 1), (.aload 0, 1), (.aload 0, 1), (.getfield 193, 3), (.putfield 192, 3), (.aload 0, 1), (.aload 3, 1), (.putfield 193, 3), (.aload 0, 1), (.getfield 192, 3), (.getfield 0, 3), (.ireturn, 1)])]
def mX6_club : ac_M := (yX6_club, cX6_club, 4, (some .int), 6, 0, 1, (1, 6), [], bX6_club, [510, 76, 508, 509], [])
def bX6_fault : List (Nat × ac_I) := [(0, [(.iload 1, 1), (.lookupswitch 3 #[(0, 1), (1, 2)], 27)]),
  (28, [(.aload 0, 1), (.getfield 195, 3), (.getfield 66, 3), (.ireturn, 1)]),
  (36, [(.aload 0, 1), (.getfield 195, 3), (.getfield 67, 3), (.ireturn, 1)]),
  (44, [(.sipush (-1), 1), (.ireturn, 1)])]
def mX6_fault : ac_M := (yX6_fault, cX6_fault, 2, (some .int), 6, 0, 1, (0, 0), [], bX6_fault, [364, 76, 362, 363], [])
def bX6_member : List (Nat × ac_I) := [(0, [(.aload 0, 1), (.iload 1, 1), (.putstatic 32550, 3), (.iload 2, 1), (.tableswitch 8 0 6 #[1, 2, 3, 4, 5, 6, 7], 42)]),
  (48, [(.aload 0, 1), (.getfield 192, 3), (.getfield 10, 3), (.iload 1, 1), (.iaload, 1), (.ireturn, 1)]),
  (58, [(.aload 0, 1), (.getfield 192, 3), (.getfield 11, 3), (.iload 1, 1), (.iaload, 1), (.ireturn, 1)]),
  (68, [(.aload 0, 1), (.getfield 192, 3), (.getfield 12, 3), (.iload 1, 1), (.iaload, 1), (.ireturn, 1)]),
  (78, [(.aload 0, 1), (.getfield 192, 3), (.getfield 5, 3), (.iload 1, 1), (.ishr, 1), (.sipush (1), 1), (.iand, 1), (.ireturn, 1)]),
  (90, [(.aload 0, 1), (.getfield 192, 3), (.sipush (1), 1), (.iload 1, 1), (.ishl, 1), (.multianewarray 24 32, 3), (.ireturn, 1)]),
  (101, [(.aload 0, 1), (.getfield 192, 3), (.iload 1, 1), (.multianewarray 25 32, 3), (.ireturn, 1)]),
  (110, [(.aload 0, 1), (.getfield 192, 3), (.iload 1, 1), (.multianewarray 25 32, 3), (.aload 0, 1), (.getfield 192, 3), (.getfield 2, 3), (.imul, 1), (.aload 0, 1), (.getfield 192, 3), (.sipush (1), 1), (.iload 1, 1), (.ishl, 1), (.multianewarray 24 32, 3), (.aload 0, 1), (.getfield 192, 3), (.getfield 12, 3), (.iload 1, 1), (.iaload, 1), (.imul, 1), (.isub, 1), (.ireturn, 1)]),
  (148, [(.instanceof 0, 8)])]
def mX6_member : ac_M := (yX6_member, cX6_member, 3, (some .int), 6, 0, 2, (2, 12), [], bX6_member, [715, 76, 713, 714], [])
def bX6_quota : List (Nat × ac_I) := [(0, [(.iload 1, 1), (.sipush (1), 1), (.sipush (12), 2), (.ret 1987, 3), (.aload 0, 1), (.getfield 192, 3), (.getfield 1, 3), (.istore 2, 1), (.aload 0, 1), (.getfield 192, 3), (.iload 1, 1), (.putfield 1, 3), (.iload 2, 1), (.ireturn, 1)])]
def mX6_quota : ac_M := (yX6_quota, cX6_quota, 3, (some .int), 6, 0, 1, (1, 6), [], bX6_quota, [745, 76, 743, 744], [])
def bX6_week : List (Nat × ac_I) := [(0, [(.aload 0, 1), (.putstatic 33046, 3), (.aload 0, 1), (.getfield 196, 3), (.aload 0, 1), (.getfield 192, 3), (.multianewarray 32 33, 3), (.aload 0, 1), (.getfield 196, 3), (.iload 1, 1), (.multianewarray 35 33, 3), (.istore 2, 1), (.aload 0, 1), (.getfield 192, 3), (.iload 2, 1), (.multianewarray 6 32, 3), (.iload 2, 1), (.ireturn, 1)])]
def mX6_week : ac_M := (yX6_week, cX6_week, 3, (some .int), 6, 0, 1, (1, 6), [], bX6_week, [753, 76, 751, 752], [])
def bX6_told : List (Nat × ac_I) := [(0, [(.aload 0, 1), (.putstatic 33046, 3), (.aload 0, 1), (.iload 1, 1), (.putstatic 33318, 3), (.aload 0, 1), (.getfield 192, 3), (.iload 1, 1), (.multianewarray 6 32, 3), (.aload 0, 1), (.getfield 192, 3), (.iload 1, 1), (.multianewarray 10 32, 3), (.ireturn, 1)])]
def mX6_told : ac_M := (yX6_told, cX6_told, 2, (some .boolean), 6, 0, 1, (2, 12), [], bX6_told, [788, 76, 786, 787], [])
def bX6_back : List (Nat × ac_I) := [(0, [(.iload 1, 1), (.sipush (0), 1), (.aload 0, 1), (.getfield 192, 3), (.getfield 6, 3), (.ret 1987, 3), (.aload 0, 1), (.getfield 192, 3), (.dup, 1), (.getfield 6, 3), (.iload 1, 1), (.isub, 1), (.putfield 6, 3), (.aload 0, 1), (.getfield 192, 3), (.getfield 6, 3), (.ireturn, 1)])]
def mX6_back : ac_M := (yX6_back, cX6_back, 2, (some .int), 6, 0, 1, (1, 6), [], bX6_back, [800, 76, 798, 799], [])
def bX6_came : List (Nat × ac_I) := [(0, [(.aload 0, 1), (.iload 1, 1), (.putstatic 32806, 3), (.aload 0, 1), (.getfield 192, 3), (.getfield 13, 3), (.iload 1, 1), (.iaload, 1), (.ireturn, 1)])]
def mX6_came : ac_M := (yX6_came, cX6_came, 2, (some .int), 6, 0, 1, (1, 6), [], bX6_came, [807, 76, 805, 806], [])
def bX6_met : List (Nat × ac_I) := [(0, [(.aload 0, 1), (.iload 1, 1), (.putstatic 32806, 3), (.aload 0, 1), (.getfield 192, 3), (.aload 0, 1), (.getfield 192, 3), (.getfield 13, 3), (.iload 1, 1), (.iaload, 1), (.multianewarray 10 32, 3), (.ireturn, 1)])]
def mX6_met : ac_M := (yX6_met, cX6_met, 2, (some .boolean), 6, 0, 1, (1, 6), [], bX6_met, [818, 76, 816, 817], [])
def bX6_next : List (Nat × ac_I) := [(0, [(.aload 0, 1), (.getfield 196, 3), (.aload 0, 1), (.getfield 192, 3), (.multianewarray 32 33, 3), (.aload 0, 1), (.getfield 196, 3), (.multianewarray 36 17, 3), (.ireturn, 1)])]
def mX6_next : ac_M := (yX6_next, cX6_next, 1, (some .int), 6, 0, 0, (0, 0), [], bX6_next, [368, 76, 366, 367], [])
def bX6_hats : List (Nat × ac_I) := [(0, [(.aload 0, 1), (.iload 1, 1), (.putstatic 32550, 3), (.aload 0, 1), (.getfield 196, 3), (.aload 0, 1), (.getfield 192, 3), (.multianewarray 32 33, 3), (.aload 0, 1), (.getfield 192, 3), (.iload 1, 1), (.aload 0, 1), (.getfield 196, 3), (.multianewarray 36 17, 3), (.multianewarray 19 48, 3), (.invokeinterface 249 1, 3), (.ireturn, 1)])]
def mX6_hats : ac_M := (yX6_hats, cX6_hats, 2, (some .int), 6, 0, 1, (1, 6), [], bX6_hats, [825, 76, 823, 824], [])
def bX6_thought : List (Nat × ac_I) := [(0, [(.aload 0, 1), (.iload 1, 1), (.putstatic 32550, 3), (.iload 2, 1), (.sipush (0), 1), (.sipush (6), 2), (.ret 1987, 3), (.aload 0, 1), (.getfield 192, 3), (.aload 0, 1), (.getfield 192, 3), (.aload 0, 1), (.getfield 192, 3), (.multianewarray 9 16, 3), (.iload 2, 1), (.multianewarray 18 48, 3), (.iload 1, 1), (.multianewarray 8 48, 3), (.ireturn, 1)])]
def mX6_thought : ac_M := (yX6_thought, cX6_thought, 3, (some .boolean), 6, 0, 2, (2, 12), [], bX6_thought, [834, 76, 832, 833], [])
def bX6_settled : List (Nat × ac_I) := [(0, [(.aload 0, 1), (.getfield 192, 3), (.multianewarray 9 16, 3), (.istore 1, 1), (.sipush (0), 1), (.istore 2, 1), (.sipush (1), 1), (.istore 3, 1), (.goto 1, 0)]),
  (12, [(.iload 3, 1), (.sipush (6), 2), (.if_icmp .gt 3, 3), (.aload 0, 1), (.getfield 192, 3), (.iload 1, 1), (.sipush (1), 1), (.multianewarray 18 48, 3), (.istore 4, 2), (.iload 4, 2), (.iload 1, 1), (.if_icmp .eq 2, 3), (.iload 3, 1), (.istore 2, 1), (.goto 2, 0)]),
  (37, [(.iload 4, 2), (.istore 1, 1), (.iinc 3 (1), 3), (.goto 1, 3)]),
  (46, [(.iload 2, 1), (.sipush (6), 2), (.if_icmp .ne 4, 3), (.sipush (-1), 1), (.goto 5, 3)]),
  (56, [(.iload 2, 1), (.goto 5, 0)]),
  (57, [(.ireturn, 1)])]
def mX6_settled : ac_M := (yX6_settled, cX6_settled, 5, (some .int), 6, 0, 0, (0, 0), [], bX6_settled, [429, 76, 427, 428], [])
def bX6_judge : List (Nat × ac_I) := [(0, [(.aload 0, 1), (.iload 1, 1), (.putstatic 34086, 3), (.astore 3, 1), (.iload 2, 1), (.sipush (0), 1), (.sipush (1), 1), (.ret 1987, 3), (.aload 0, 1), (.getfield 196, 3), (.aload 0, 1), (.getfield 192, 3), (.multianewarray 32 33, 3), (.sipush (0), 1), (.istore 4, 2), (.goto 1, 0)]),
  (26, [(.iload 4, 2), (.aload 3, 1), (.getfield 98, 3), (.if_icmp .ge 5, 3), (.aload 0, 1), (.getfield 196, 3), (.multianewarray 34 17, 3), (.istore 5, 2), (.aload 3, 1), (.getfield 99, 3), (.iload 4, 2), (.laload, 1), (.iload 5, 2), (.i2l, 1), (.lcmp, 1), (.ifCond .eq 4, 3), (.iload 2, 1), (.ifCond .ne 2, 3), (.iload 4, 2), (.goto 3, 3)]),
  (67, [(.iload 5, 2), (.goto 3, 0)]),
  (69, [(.ireturn, 1)]),
  (70, [(.iinc 4 (1), 3), (.goto 1, 3)]),
  (76, [(.sipush (-1), 1), (.ireturn, 1)])]
def mX6_judge : ac_M := (yX6_judge, cX6_judge, 6, (some .int), 6, 0, 2, (3, 18), [], bX6_judge, [842, 76, 840, 841], [])
def bX6_gain : List (Nat × ac_I) := [(0, [(.aload 0, 1), (.iload 2, 1), (.putstatic 32550, 3), (.aload 0, 1), (.iload 1, 1), (.putstatic 33318, 3), (.aload 0, 1), (.getfield 192, 3), (.iload 2, 1), (.iload 1, 1), (.multianewarray 12 48, 3), (.ireturn, 1)])]
def mX6_gain : ac_M := (yX6_gain, cX6_gain, 3, (some .int), 6, 0, 2, (2, 12), [], bX6_gain, [860, 76, 858, 859], [])
def ms2 : List ac_M := [mX3_put, mX3_cut, mX4_init, mX4_play, mX4_comesAt, mX4_firstOf, mX5_init, mX5_find, mX5_begin, mX5_isAtRest, mX5_payIn, mX5_turnOn, mX6_init, mX6_feed, mX6_club, mX6_fault, mX6_member, mX6_quota, mX6_week, mX6_told, mX6_back, mX6_came, mX6_met, mX6_next, mX6_hats, mX6_thought, mX6_settled, mX6_judge, mX6_gain]
def bX6_rests : List (Nat × ac_I) := [(0, [(.aload 0, 1), (.iload 1, 1), (.putstatic 33318, 3), (.aload 0, 1), (.getfield 192, 3), (.iload 1, 1), (.multianewarray 16 32, 3), (.ifCond .ne 1, 3), (.sipush (1), 1), (.goto 2, 3)]),
  (20, [(.sipush (0), 1), (.goto 2, 0)]),
  (21, [(.ireturn, 1)])]
def mX6_rests : ac_M := (yX6_rests, cX6_rests, 2, (some .boolean), 6, 0, 1, (1, 6), [], bX6_rests, [872, 76, 870, 871], [])
def bX6_rest : List (Nat × ac_I) := [(0, [(.sipush (0), 1), (.istore 2, 1), (.sipush (0), 1), (.istore 3, 1), (.goto 1, 0)]),
  (4, [(.iload 3, 1), (.aload 0, 1), (.getfield 192, 3), (.multianewarray 7 16, 3), (.if_icmp .gt 4, 3), (.aload 0, 1), (.getfield 192, 3), (.iload 3, 1), (.multianewarray 16 32, 3), (.ifCond .ne 3, 3), (.iload 2, 1), (.iload 1, 1), (.if_icmp .ne 2, 3), (.iload 3, 1), (.ireturn, 1)]),
  (33, [(.iinc 2 (1), 3), (.goto 3, 0)]),
  (36, [(.iinc 3 (1), 3), (.goto 1, 3)]),
  (42, [(.iload 1, 1), (.sipush (-1), 1), (.if_icmp .ne 5, 3), (.iload 2, 1), (.goto 6, 3)]),
  (51, [(.sipush (-1), 1), (.goto 6, 0)]),
  (52, [(.ireturn, 1)])]
def mX6_rest : ac_M := (yX6_rest, cX6_rest, 4, (some .int), 6, 0, 1, (0, 0), [], bX6_rest, [435, 76, 433, 434], [])
def bX6_strong : List (Nat × ac_I) := [(0, [(.aload 0, 1), (.iload 1, 1), (.putstatic 33318, 3), (.aload 0, 1), (.getfield 192, 3), (.iload 1, 1), (.multianewarray 17 32, 3), (.ireturn, 1)])]
def mX6_strong : ac_M := (yX6_strong, cX6_strong, 2, (some .boolean), 6, 0, 1, (1, 6), [], bX6_strong, [879, 76, 877, 878], [])
def bX6_strongs : List (Nat × ac_I) := [(0, [(.sipush (0), 1), (.istore 2, 1), (.sipush (0), 1), (.istore 3, 1), (.goto 1, 0)]),
  (4, [(.iload 3, 1), (.aload 0, 1), (.getfield 192, 3), (.multianewarray 7 16, 3), (.if_icmp .gt 4, 3), (.aload 0, 1), (.getfield 192, 3), (.iload 3, 1), (.multianewarray 17 32, 3), (.ifCond .eq 3, 3), (.iload 2, 1), (.iload 1, 1), (.if_icmp .ne 2, 3), (.iload 3, 1), (.ireturn, 1)]),
  (33, [(.iinc 2 (1), 3), (.goto 3, 0)]),
  (36, [(.iinc 3 (1), 3), (.goto 1, 3)]),
  (42, [(.iload 1, 1), (.sipush (-1), 1), (.if_icmp .ne 5, 3), (.iload 2, 1), (.goto 6, 3)]),
  (51, [(.sipush (-1), 1), (.goto 6, 0)]),
  (52, [(.ireturn, 1)])]
def mX6_strongs : ac_M := (yX6_strongs, cX6_strongs, 4, (some .int), 6, 0, 1, (0, 0), [], bX6_strongs, [447, 76, 445, 446], [])
def bX6_inTurn : List (Nat × ac_I) := [(0, [(.sipush (0), 1), (.istore 1, 1), (.goto 1, 0)]),
  (2, [(.iload 1, 1), (.aload 0, 1), (.getfield 192, 3), (.getfield 4, 3), (.if_icmp .ge 2, 3), (.aload 0, 1), (.getfield 197, 3), (.getfield 128, 3), (.iload 1, 1), (.iload 1, 1), (.iastore, 1), (.iinc 1 (1), 3), (.goto 1, 3)]),
  (29, [(.aload 0, 1), (.getfield 197, 3), (.aload 0, 1), (.getfield 192, 3), (.multianewarray 61 36, 3), (.ireturn, 1)])]
def mX6_inTurn : ac_M := (yX6_inTurn, cX6_inTurn, 2, (some .int), 6, 0, 0, (0, 0), [], bX6_inTurn, [456, 76, 454, 455], [])
def bX6_turnsBy : List (Nat × ac_I) := [(0, [(.aload 0, 1), (.iload 1, 1), (.putstatic 34086, 3), (.astore 3, 1), (.iload 2, 1), (.sipush (0), 1), (.sipush (1), 1), (.ret 1987, 3), (.aload 0, 1), (.aload 3, 1), (.putstatic 23846, 3), (.aload 0, 1), (.getfield 197, 3), (.aload 0, 1), (.getfield 192, 3), (.multianewarray 61 36, 3), (.istore 4, 2), (.iload 2, 1), (.ifCond .ne 1, 3), (.iload 4, 2), (.goto 2, 3)]),
  (39, [(.aload 0, 1), (.getfield 197, 3), (.aload 0, 1), (.getfield 192, 3), (.iload 4, 2), (.multianewarray 63 52, 3), (.goto 2, 0)]),
  (52, [(.ireturn, 1)])]
def mX6_turnsBy : ac_M := (yX6_turnsBy, cX6_turnsBy, 5, (some .int), 6, 0, 2, (5, 30), [], bX6_turnsBy, [886, 76, 884, 885], [])
def bX6_takeOrder : List (Nat × ac_I) := [(0, [(.aload 1, 1), (.getfield 98, 3), (.aload 0, 1), (.getfield 192, 3), (.getfield 4, 3), (.if_icmp .eq 1, 3), (.instanceof 0, 8)]),
  (22, [(.sipush (0), 1), (.istore 2, 1), (.sipush (0), 1), (.istore 3, 1), (.goto 2, 0)]),
  (26, [(.iload 3, 1), (.aload 0, 1), (.getfield 192, 3), (.getfield 4, 3), (.if_icmp .ge 5, 3), (.aload 1, 1), (.getfield 99, 3), (.iload 3, 1), (.laload, 1), (.lstore 4, 2), (.lload 4, 2), (.ldc2_w 0, 1), (.lcmp, 1), (.ifCond .lt 3, 3), (.lload 4, 2), (.aload 0, 1), (.getfield 192, 3), (.getfield 4, 3), (.i2l, 1), (.lcmp, 1), (.ifCond .ge 3, 3), (.aload 0, 1), (.getfield 192, 3), (.iload 2, 1), (.lload 4, 2), (.l2i, 1), (.multianewarray 8 48, 3), (.ifCond .eq 4, 3), (.goto 3, 0)]),
  (80, [(.instanceof 0, 8)]),
  (88, [(.iload 2, 1), (.sipush (1), 1), (.lload 4, 2), (.l2i, 1), (.ishl, 1), (.ior, 1), (.istore 2, 1), (.aload 0, 1), (.getfield 197, 3), (.getfield 128, 3), (.iload 3, 1), (.lload 4, 2), (.l2i, 1), (.iastore, 1), (.iinc 3 (1), 3), (.goto 2, 3)]),
  (114, [(.return_, 1)])]
def mX6_takeOrder : ac_M := (yX6_takeOrder, cX6_takeOrder, 6, none, 6, 0, 1, (2, 12), [], bX6_takeOrder, [890, 76, 889, 19], [])
def bX6_two : List (Nat × ac_I) := [(0, [(.iload 1, 1), (.sipush (1), 1), (.sipush (12), 2), (.ret 1987, 3), (.iload 2, 1), (.sipush (0), 1), (.sipush (999), 3), (.ret 1987, 3), (.aload 0, 1), (.getfield 192, 3), (.getfield 4, 3), (.sipush (8), 2), (.if_icmp .le 1, 3), (.instanceof 2, 8)]),
  (35, [(.aload 0, 1), (.getfield 198, 3), (.aload 0, 1), (.getfield 192, 3), (.iload 1, 1), (.iload 2, 1), (.iload 3, 1), (.multianewarray 65 85, 3), (.ireturn, 1)])]
def mX6_two : ac_M := (yX6_two, cX6_two, 4, (some .int), 6, 0, 3, (3, 18), [], bX6_two, [901, 76, 899, 900], [])
def bX6_bestRest : List (Nat × ac_I) := [(0, [(.sipush (-1), 1), (.istore 1, 1), (.sipush (0), 1), (.istore 2, 1), (.sipush (0), 1), (.istore 3, 1), (.goto 1, 0)]),
  (6, [(.iload 3, 1), (.aload 0, 1), (.getfield 192, 3), (.multianewarray 7 16, 3), (.if_icmp .gt 4, 3), (.aload 0, 1), (.getfield 192, 3), (.iload 3, 1), (.multianewarray 16 32, 3), (.ifCond .ne 3, 3), (.aload 0, 1), (.getfield 192, 3), (.iload 3, 1), (.multianewarray 13 32, 3), (.istore 4, 2), (.iload 1, 1), (.sipush (-1), 1), (.if_icmp .eq 2, 3), (.iload 4, 2), (.iload 2, 1), (.if_icmp .le 3, 3), (.goto 2, 0)]),
  (49, [(.iload 3, 1), (.istore 1, 1), (.iload 4, 2), (.istore 2, 1), (.goto 3, 0)]),
  (54, [(.iinc 3 (1), 3), (.goto 1, 3)]),
  (60, [(.iload 1, 1), (.ireturn, 1)])]
def mX6_bestRest : ac_M := (yX6_bestRest, cX6_bestRest, 5, (some .int), 6, 0, 0, (0, 0), [], bX6_bestRest, [469, 76, 467, 468], [])
def bX6_pay : List (Nat × ac_I) := [(0, [(.aload 0, 1), (.iload 1, 1), (.putstatic 33318, 3), (.aload 0, 1), (.getfield 192, 3), (.iload 1, 1), (.multianewarray 13 32, 3), (.ireturn, 1)])]
def mX6_pay : ac_M := (yX6_pay, cX6_pay, 2, (some .int), 6, 0, 1, (1, 6), [], bX6_pay, [933, 76, 931, 932], [])
def bX6_pivots : List (Nat × ac_I) := [(0, [(.aload 0, 1), (.iload 1, 1), (.putstatic 33318, 3), (.sipush (0), 1), (.istore 2, 1), (.sipush (0), 1), (.istore 3, 1), (.goto 1, 0)]),
  (9, [(.iload 3, 1), (.aload 0, 1), (.getfield 192, 3), (.getfield 4, 3), (.if_icmp .ge 3, 3), (.aload 0, 1), (.getfield 192, 3), (.iload 1, 1), (.sipush (1), 1), (.iload 3, 1), (.ishl, 1), (.ixor, 1), (.multianewarray 10 32, 3), (.aload 0, 1), (.getfield 192, 3), (.iload 1, 1), (.multianewarray 10 32, 3), (.if_icmp .eq 2, 3), (.iload 2, 1), (.sipush (1), 1), (.iload 3, 1), (.ishl, 1), (.ior, 1), (.istore 2, 1), (.goto 2, 0)]),
  (49, [(.iinc 3 (1), 3), (.goto 1, 3)]),
  (55, [(.iload 2, 1), (.ireturn, 1)])]
def mX6_pivots : ac_M := (yX6_pivots, cX6_pivots, 4, (some .int), 6, 0, 1, (1, 6), [], bX6_pivots, [940, 76, 938, 939], [])
def bX6_replies : List (Nat × ac_I) := [(0, [(.aload 0, 1), (.iload 1, 1), (.putstatic 33318, 3), (.iload 2, 1), (.sipush (0), 1), (.sipush (1), 1), (.ret 1987, 3), (.iload 1, 1), (.istore 3, 1), (.sipush (0), 1), (.istore 4, 2), (.goto 1, 0)]),
  (16, [(.iload 4, 2), (.sipush (4096), 3), (.if_icmp .gt 5, 3), (.aload 0, 1), (.getfield 192, 3), (.iload 3, 1), (.multianewarray 16 32, 3), (.istore 5, 2), (.iload 5, 2), (.ifCond .ne 4, 3), (.iload 2, 1), (.ifCond .ne 2, 3), (.iload 3, 1), (.goto 3, 3)]),
  (47, [(.iload 4, 2), (.goto 3, 0)]),
  (49, [(.ireturn, 1)]),
  (50, [(.iload 3, 1), (.iload 5, 2), (.iload 5, 2), (.ineg, 1), (.iand, 1), (.ixor, 1), (.istore 3, 1), (.iinc 4 (1), 3), (.goto 1, 3)]),
  (65, [(.sipush (-1), 1), (.ireturn, 1)])]
def mX6_replies : ac_M := (yX6_replies, cX6_replies, 6, (some .int), 6, 0, 2, (2, 12), [], bX6_replies, [947, 76, 945, 946], [])
def bX6_bribe : List (Nat × ac_I) := [(0, [(.aload 0, 1), (.iload 1, 1), (.putstatic 33318, 3), (.aload 0, 1), (.getfield 192, 3), (.iload 1, 1), (.multianewarray 15 32, 3), (.ireturn, 1)])]
def mX6_bribe : ac_M := (yX6_bribe, cX6_bribe, 2, (some .int), 6, 0, 1, (1, 6), [], bX6_bribe, [954, 76, 952, 953], [])
def bX6_leastBribe : List (Nat × ac_I) := [(0, [(.iload 1, 1), (.sipush (0), 1), (.sipush (1), 1), (.ret 1987, 3), (.sipush (-1), 1), (.istore 2, 1), (.sipush (-1), 1), (.istore 3, 1), (.sipush (0), 1), (.istore 4, 2), (.goto 1, 0)]),
  (13, [(.iload 4, 2), (.aload 0, 1), (.getfield 192, 3), (.multianewarray 7 16, 3), (.if_icmp .gt 4, 3), (.aload 0, 1), (.getfield 192, 3), (.iload 4, 2), (.multianewarray 10 32, 3), (.ifCond .eq 3, 3), (.aload 0, 1), (.getfield 192, 3), (.iload 4, 2), (.multianewarray 15 32, 3), (.istore 5, 2), (.iload 2, 1), (.sipush (-1), 1), (.if_icmp .eq 2, 3), (.iload 5, 2), (.iload 3, 1), (.if_icmp .ge 3, 3), (.goto 2, 0)]),
  (59, [(.iload 4, 2), (.istore 2, 1), (.iload 5, 2), (.istore 3, 1), (.goto 3, 0)]),
  (65, [(.iinc 4 (1), 3), (.goto 1, 3)]),
  (71, [(.iload 1, 1), (.ifCond .ne 5, 3), (.iload 3, 1), (.goto 6, 3)]),
  (79, [(.iload 2, 1), (.goto 6, 0)]),
  (80, [(.ireturn, 1)])]
def mX6_leastBribe : ac_M := (yX6_leastBribe, cX6_leastBribe, 6, (some .int), 6, 0, 1, (1, 6), [], bX6_leastBribe, [967, 76, 965, 966], [])
def bX6_contract : List (Nat × ac_I) := [(0, [(.iload 1, 1), (.sipush (0), 1), (.sipush (1), 1), (.ret 1987, 3), (.sipush (-1), 1), (.istore 2, 1), (.sipush (-1), 1), (.istore 3, 1), (.sipush (0), 1), (.istore 4, 2), (.goto 1, 0)]),
  (13, [(.iload 4, 2), (.aload 0, 1), (.getfield 192, 3), (.multianewarray 7 16, 3), (.if_icmp .gt 4, 3), (.aload 0, 1), (.getfield 192, 3), (.iload 4, 2), (.multianewarray 10 32, 3), (.ifCond .eq 3, 3), (.aload 0, 1), (.getfield 192, 3), (.iload 4, 2), (.multianewarray 14 32, 3), (.istore 5, 2), (.iload 2, 1), (.sipush (-1), 1), (.if_icmp .eq 2, 3), (.iload 5, 2), (.iload 3, 1), (.if_icmp .ge 3, 3), (.goto 2, 0)]),
  (59, [(.iload 4, 2), (.istore 2, 1), (.iload 5, 2), (.istore 3, 1), (.goto 3, 0)]),
  (65, [(.iinc 4 (1), 3), (.goto 1, 3)]),
  (71, [(.iload 1, 1), (.ifCond .ne 5, 3), (.iload 3, 1), (.goto 6, 3)]),
  (79, [(.iload 2, 1), (.goto 6, 0)]),
  (80, [(.ireturn, 1)])]
def mX6_contract : ac_M := (yX6_contract, cX6_contract, 6, (some .int), 6, 0, 1, (1, 6), [], bX6_contract, [974, 76, 972, 973], [])
def bX6_odds : List (Nat × ac_I) := [(0, [(.iload 1, 1), (.iload 2, 1), (.ret 2002, 3), (.aload 0, 1), (.getfield 192, 3), (.getfield 4, 3), (.iload 3, 1), (.iload 1, 1), (.iload 2, 1), (.invokeinterface 134 4, 3), (.lreturn, 1)])]
def mX6_odds : ac_M := (yX6_odds, cX6_odds, 4, (some .long), 6, 0, 3, (2, 12), [], bX6_odds, [982, 76, 980, 981], [])
def bX6_bestOdds : List (Nat × ac_I) := [(0, [(.iload 1, 1), (.sipush (1), 1), (.sipush (20), 2), (.ret 1987, 3), (.sipush (0), 1), (.istore 2, 1), (.ldc2_w 0, 1), (.lstore 3, 1), (.sipush (0), 1), (.istore 5, 2), (.goto 1, 0)]),
  (14, [(.iload 5, 2), (.iload 1, 1), (.if_icmp .gt 3, 3), (.aload 0, 1), (.getfield 192, 3), (.getfield 4, 3), (.aload 0, 1), (.getfield 192, 3), (.getfield 1, 3), (.iload 5, 2), (.iload 1, 1), (.invokeinterface 134 4, 3), (.lstore 6, 2), (.lload 6, 2), (.lload 3, 1), (.lcmp, 1), (.ifCond .le 2, 3), (.iload 5, 2), (.istore 2, 1), (.lload 6, 2), (.lstore 3, 1), (.goto 2, 0)]),
  (55, [(.iinc 5 (1), 3), (.goto 1, 3)]),
  (61, [(.iload 2, 1), (.ireturn, 1)])]
def mX6_bestOdds : ac_M := (yX6_bestOdds, cX6_bestOdds, 8, (some .int), 6, 0, 1, (1, 6), [], bX6_bestOdds, [999, 76, 997, 998], [])
def bX6_chances : List (Nat × ac_I) := [(0, [(.aload 0, 1), (.iload 1, 1), (.putstatic 34086, 3), (.astore 4, 2), (.iload 2, 1), (.sipush (1), 1), (.sipush (20), 2), (.ret 1987, 3), (.aload 0, 1), (.aload 4, 2), (.iload 2, 1), (.putstatic 32310, 3), (.iload 3, 1), (.ifCond .lt 1, 3), (.iload 3, 1), (.aload 0, 1), (.getfield 192, 3), (.getfield 4, 3), (.if_icmp .le 2, 3), (.goto 1, 0)]),
  (36, [(.ldc2_w 0, 1), (.lreturn, 1)]),
  (38, [(.aload 0, 1), (.getfield 203, 3), (.sipush (0), 1), (.ldc2_w 1, 1), (.lastore, 1), (.sipush (0), 1), (.istore 5, 2), (.goto 3, 0)]),
  (48, [(.iload 5, 2), (.aload 0, 1), (.getfield 192, 3), (.getfield 4, 3), (.if_icmp .ge 6, 3), (.aload 4, 2), (.getfield 99, 3), (.iload 5, 2), (.laload, 1), (.lstore 6, 2), (.aload 0, 1), (.getfield 203, 3), (.iload 5, 2), (.sipush (1), 1), (.iadd, 1), (.aload 0, 1), (.getfield 203, 3), (.iload 5, 2), (.laload, 1), (.lload 6, 2), (.lmul, 1), (.lastore, 1), (.iload 5, 2), (.istore 8, 2), (.goto 4, 0)]),
  (93, [(.iload 8, 2), (.ifCond .le 5, 3), (.aload 0, 1), (.getfield 203, 3), (.iload 8, 2), (.aload 0, 1), (.getfield 203, 3), (.iload 8, 2), (.laload, 1), (.iload 2, 1), (.i2l, 1), (.lload 6, 2), (.lsub, 1), (.lmul, 1), (.aload 0, 1), (.getfield 203, 3), (.iload 8, 2), (.sipush (1), 1), (.isub, 1), (.laload, 1), (.lload 6, 2), (.lmul, 1), (.ladd, 1), (.lastore, 1), (.iinc 8 (-1), 3), (.goto 4, 3)]),
  (137, [(.aload 0, 1), (.getfield 203, 3), (.sipush (0), 1), (.dup2, 1), (.laload, 1), (.iload 2, 1), (.i2l, 1), (.lload 6, 2), (.lsub, 1), (.lmul, 1), (.lastore, 1), (.iinc 5 (1), 3), (.goto 3, 3)]),
  (157, [(.aload 0, 1), (.getfield 203, 3), (.iload 3, 1), (.laload, 1), (.lreturn, 1)])]
def mX6_chances : ac_M := (yX6_chances, cX6_chances, 9, (some .long), 6, 0, 3, (5, 30), [], bX6_chances, [1006, 76, 1004, 1005], [])
def bX6_hope : List (Nat × ac_I) := [(0, [(.aload 0, 1), (.iload 1, 1), (.putstatic 32550, 3), (.iload 2, 1), (.iload 3, 1), (.ret 2002, 3), (.iload 4, 2), (.sipush (0), 1), (.sipush (1), 1), (.ret 1987, 3), (.aload 0, 1), (.getfield 192, 3), (.getfield 4, 3), (.sipush (1), 1), (.isub, 1), (.istore 5, 2), (.ldc2_w 1, 1), (.iload 3, 1), (.iload 5, 2), (.invokeinterface 136 2, 3), (.invokeinterface 254 2, 3), (.lstore 6, 2), (.aload 0, 1), (.getfield 192, 3), (.getfield 2, 3), (.i2l, 1), (.iload 5, 2), (.aload 0, 1), (.getfield 192, 3), (.getfield 1, 3), (.sipush (1), 1), (.isub, 1), (.iload 2, 1), (.iload 3, 1), (.invokeinterface 134 4, 3), (.lmul, 1), (.aload 0, 1), (.getfield 192, 3), (.getfield 12, 3), (.iload 1, 1), (.iaload, 1), (.i2l, 1), (.lload 6, 2), (.lmul, 1), (.lsub, 1), (.lstore 8, 2), (.iload 4, 2), (.ifCond .ne 1, 3), (.lload 8, 2), (.lload 6, 2), (.invokeinterface 250 2, 3), (.goto 2, 3)]),
  (96, [(.lload 8, 2), (.lload 6, 2), (.invokeinterface 251 2, 3), (.goto 2, 0)]),
  (103, [(.lreturn, 1)])]
def mX6_hope : ac_M := (yX6_hope, cX6_hope, 10, (some .long), 6, 0, 4, (4, 24), [], bX6_hope, [1017, 76, 1015, 1016], [])
def bX6_ahead : List (Nat × ac_I) := [(0, [(.iload 1, 1), (.sipush (1), 1), (.sipush (60), 2), (.ret 1987, 3), (.iload 2, 1), (.sipush (100), 2), (.if_icmp .lt 1, 3), (.iload 2, 1), (.sipush (100), 2), (.iload 1, 1), (.iadd, 1), (.if_icmp .ge 1, 3), (.sipush (1), 1), (.goto 2, 3)]),
  (25, [(.sipush (0), 1), (.goto 2, 0)]),
  (26, [(.istore 3, 1), (.iload 3, 1), (.ifCond .ne 3, 3), (.iload 2, 1), (.sipush (0), 1), (.sipush (2), 1), (.ret 1987, 3), (.goto 3, 0)]),
  (37, [(.iload 2, 1), (.ifCond .ne 4, 3), (.aload 0, 1), (.getfield 196, 3), (.aload 0, 1), (.getfield 192, 3), (.iload 1, 1), (.multianewarray 39 49, 3), (.ireturn, 1)]),
  (54, [(.aload 0, 1), (.getfield 196, 3), (.aload 0, 1), (.getfield 192, 3), (.multianewarray 32 33, 3), (.sipush (0), 1), (.istore 4, 2), (.aload 0, 1), (.getfield 192, 3), (.multianewarray 7 16, 3), (.istore 5, 2), (.sipush (0), 1), (.istore 6, 2), (.goto 5, 0)]),
  (80, [(.iload 6, 2), (.iload 1, 1), (.if_icmp .ge 7, 3), (.aload 0, 1), (.getfield 196, 3), (.multianewarray 34 17, 3), (.istore 7, 2), (.iload 2, 1), (.sipush (100), 2), (.iload 6, 2), (.iadd, 1), (.if_icmp .ne 6, 3), (.iload 7, 2), (.ireturn, 1)]),
  (107, [(.iload 4, 2), (.iload 7, 2), (.ior, 1), (.istore 4, 2), (.iload 5, 2), (.iload 7, 2), (.iand, 1), (.istore 5, 2), (.iinc 6 (1), 3), (.goto 5, 3)]),
  (127, [(.iload 2, 1), (.sipush (1), 1), (.if_icmp .ne 8, 3), (.aload 0, 1), (.getfield 192, 3), (.multianewarray 7 16, 3), (.iload 4, 2), (.sipush (-1), 1), (.ixor, 1), (.iand, 1), (.goto 9, 3)]),
  (147, [(.iload 5, 2), (.goto 9, 0)]),
  (149, [(.ireturn, 1)])]
def mX6_ahead : ac_M := (yX6_ahead, cX6_ahead, 8, (some .int), 6, 0, 2, (2, 12), [], bX6_ahead, [1033, 76, 1031, 1032], [])
def bX6_ring : List (Nat × ac_I) := [(0, [(.iload 1, 1), (.sipush (0), 1), (.sipush (1), 1), (.ret 1987, 3), (.aload 0, 1), (.getfield 192, 3), (.multianewarray 21 16, 3), (.ifCond .eq 1, 3), (.sipush (-1), 1), (.ireturn, 1)]),
  (18, [(.aload 0, 1), (.getfield 192, 3), (.multianewarray 22 16, 3), (.istore 2, 1), (.aload 0, 1), (.getfield 196, 3), (.aload 0, 1), (.getfield 192, 3), (.multianewarray 32 33, 3), (.aload 0, 1), (.getfield 202, 3), (.sipush (0), 1), (.aload 0, 1), (.getfield 196, 3), (.getfield 34, 3), (.iastore, 1), (.sipush (1), 1), (.istore 3, 1), (.goto 2, 0)]),
  (52, [(.iload 3, 1), (.sipush (400), 3), (.if_icmp .gt 8, 3), (.aload 0, 1), (.getfield 202, 3), (.iload 3, 1), (.aload 0, 1), (.getfield 196, 3), (.multianewarray 34 17, 3), (.iastore, 1), (.iload 3, 1), (.iload 2, 1), (.isub, 1), (.istore 4, 2), (.goto 3, 0)]),
  (77, [(.iload 4, 2), (.ifCond .lt 7, 3), (.aload 0, 1), (.getfield 202, 3), (.iload 4, 2), (.iaload, 1), (.aload 0, 1), (.getfield 202, 3), (.iload 3, 1), (.iaload, 1), (.if_icmp .ne 6, 3), (.iload 1, 1), (.ifCond .ne 4, 3), (.iload 3, 1), (.iload 4, 2), (.isub, 1), (.goto 5, 3)]),
  (109, [(.iload 4, 2), (.goto 5, 0)]),
  (111, [(.ireturn, 1)]),
  (112, [(.iload 4, 2), (.iload 2, 1), (.isub, 1), (.istore 4, 2), (.goto 3, 3)]),
  (121, [(.iinc 3 (1), 3), (.goto 2, 3)]),
  (127, [(.sipush (-1), 1), (.ireturn, 1)])]
def mX6_ring : ac_M := (yX6_ring, cX6_ring, 5, (some .int), 6, 0, 1, (1, 6), [], bX6_ring, [1047, 76, 1045, 1046], [])
def bX6_worth : List (Nat × ac_I) := [(0, [(.aload 0, 1), (.iload 1, 1), (.putstatic 32550, 3), (.iload 2, 1), (.sipush (1), 1), (.sipush (60), 2), (.ret 1987, 3), (.aload 0, 1), (.getfield 194, 3), (.aload 0, 1), (.getfield 192, 3), (.multianewarray 4 32, 3), (.aload 0, 1), (.getfield 194, 3), (.iload 1, 1), (.sipush (1), 1), (.sipush (0), 1), (.multianewarray 5 64, 3), (.aload 0, 1), (.getfield 194, 3), (.dup, 1), (.getfield 5, 3), (.sipush (1), 1), (.iload 1, 1), (.ishl, 1), (.sipush (-1), 1), (.ixor, 1), (.iand, 1), (.putfield 5, 3), (.aload 0, 1), (.getfield 196, 3), (.aload 0, 1), (.getfield 192, 3), (.iload 2, 1), (.multianewarray 39 49, 3), (.aload 0, 1), (.getfield 196, 3), (.aload 0, 1), (.getfield 194, 3), (.iload 2, 1), (.multianewarray 39 49, 3), (.isub, 1), (.ireturn, 1)])]
def mX6_worth : ac_M := (yX6_worth, cX6_worth, 3, (some .int), 6, 0, 2, (2, 12), [], bX6_worth, [1065, 76, 1063, 1064], [])
def bX6_bestQuota : List (Nat × ac_I) := [(0, [(.iload 1, 1), (.sipush (1), 1), (.sipush (60), 2), (.ret 1987, 3), (.aload 0, 1), (.getfield 194, 3), (.aload 0, 1), (.getfield 192, 3), (.multianewarray 4 32, 3), (.sipush (1), 1), (.istore 2, 1), (.sipush (0), 1), (.istore 3, 1), (.sipush (1), 1), (.istore 4, 2), (.goto 1, 0)]),
  (25, [(.iload 4, 2), (.sipush (12), 2), (.if_icmp .gt 3, 3), (.aload 0, 1), (.getfield 194, 3), (.iload 4, 2), (.putfield 1, 3), (.aload 0, 1), (.getfield 196, 3), (.aload 0, 1), (.getfield 194, 3), (.iload 1, 1), (.multianewarray 39 49, 3), (.istore 5, 2), (.iload 5, 2), (.iload 3, 1), (.if_icmp .le 2, 3), (.iload 4, 2), (.istore 2, 1), (.iload 5, 2), (.istore 3, 1), (.goto 2, 0)]),
  (67, [(.iinc 4 (1), 3), (.goto 1, 3)]),
  (73, [(.iload 2, 1), (.ireturn, 1)])]
def mX6_bestQuota : ac_M := (yX6_bestQuota, cX6_bestQuota, 6, (some .int), 6, 0, 1, (1, 6), [], bX6_bestQuota, [1083, 76, 1081, 1082], [])
def ms3 : List ac_M := [mX6_rests, mX6_rest, mX6_strong, mX6_strongs, mX6_inTurn, mX6_turnsBy, mX6_takeOrder, mX6_two, mX6_bestRest, mX6_pay, mX6_pivots, mX6_replies, mX6_bribe, mX6_leastBribe, mX6_contract, mX6_odds, mX6_bestOdds, mX6_chances, mX6_hope, mX6_ahead, mX6_ring, mX6_worth, mX6_bestQuota]
def bX6_bestRule : List (Nat × ac_I) := [(0, [(.aload 0, 1), (.iload 1, 1), (.putstatic 32550, 3), (.iload 2, 1), (.sipush (1), 1), (.sipush (30), 2), (.ret 1987, 3), (.iload 3, 1), (.sipush (0), 1), (.sipush (2), 1), (.ret 1987, 3), (.aload 0, 1), (.getfield 194, 3), (.aload 0, 1), (.getfield 192, 3), (.multianewarray 4 32, 3), (.sipush (-1), 1), (.istore 4, 2), (.sipush (0), 1), (.istore 5, 2), (.sipush (0), 1), (.istore 6, 2), (.sipush (0), 1), (.istore 7, 2), (.goto 1, 0)]),
  (41, [(.iload 7, 2), (.sipush (11), 2), (.if_icmp .ge 6, 3), (.getstatic 0, 3), (.iload 7, 2), (.daload, 1), (.istore 8, 2), (.goto 2, 0)]),
  (56, [(.iload 8, 2), (.getstatic 1, 3), (.iload 7, 2), (.saload, 1), (.if_icmp .gt 5, 3), (.aload 0, 1), (.getfield 194, 3), (.iload 1, 1), (.iload 7, 2), (.iload 8, 2), (.multianewarray 5 64, 3), (.aload 0, 1), (.getfield 196, 3), (.aload 0, 1), (.getfield 194, 3), (.iload 1, 1), (.iload 2, 1), (.multianewarray 40 65, 3), (.istore 9, 2), (.iload 4, 2), (.sipush (-1), 1), (.if_icmp .eq 3, 3), (.iload 9, 2), (.iload 6, 2), (.if_icmp .le 4, 3), (.goto 3, 0)]),
  (107, [(.iload 7, 2), (.istore 4, 2), (.iload 8, 2), (.istore 5, 2), (.iload 9, 2), (.istore 6, 2), (.goto 4, 0)]),
  (119, [(.iinc 8 (1), 3), (.goto 2, 3)]),
  (125, [(.iinc 7 (1), 3), (.goto 1, 3)]),
  (131, [(.iload 3, 1), (.sipush (2), 1), (.if_icmp .ne 7, 3), (.iload 6, 2), (.ireturn, 1)]),
  (139, [(.iload 3, 1), (.ifCond .ne 8, 3), (.iload 4, 2), (.goto 9, 3)]),
  (148, [(.iload 5, 2), (.goto 9, 0)]),
  (150, [(.ireturn, 1)])]
def mX6_bestRule : ac_M := (yX6_bestRule, cX6_bestRule, 10, (some .int), 6, 0, 3, (3, 18), [], bX6_bestRule, [1090, 76, 1088, 1089], [])
def bX6_streak : List (Nat × ac_I) := [(0, [(.iload 1, 1), (.sipush (0), 1), (.sipush (1), 1), (.ret 1987, 3), (.sipush (0), 1), (.istore 2, 1), (.sipush (-1), 1), (.istore 3, 1), (.sipush (0), 1), (.istore 4, 2), (.sipush (0), 1), (.istore 5, 2), (.goto 1, 0)]),
  (16, [(.iload 5, 2), (.aload 0, 1), (.getfield 192, 3), (.getfield 6, 3), (.if_icmp .ge 5, 3), (.aload 0, 1), (.getfield 192, 3), (.aload 0, 1), (.getfield 192, 3), (.getfield 13, 3), (.iload 5, 2), (.iaload, 1), (.multianewarray 10 32, 3), (.ifCond .eq 2, 3), (.iload 4, 2), (.sipush (1), 1), (.iadd, 1), (.goto 3, 3)]),
  (55, [(.sipush (0), 1), (.goto 3, 0)]),
  (56, [(.istore 4, 2), (.iload 4, 2), (.iload 2, 1), (.if_icmp .le 4, 3), (.iload 4, 2), (.istore 2, 1), (.iload 5, 2), (.iload 4, 2), (.isub, 1), (.sipush (1), 1), (.iadd, 1), (.istore 3, 1), (.goto 4, 0)]),
  (75, [(.iinc 5 (1), 3), (.goto 1, 3)]),
  (81, [(.iload 1, 1), (.ifCond .ne 6, 3), (.iload 2, 1), (.goto 7, 3)]),
  (89, [(.iload 3, 1), (.goto 7, 0)]),
  (90, [(.ireturn, 1)])]
def mX6_streak : ac_M := (yX6_streak, cX6_streak, 6, (some .int), 6, 0, 1, (1, 6), [], bX6_streak, [1103, 76, 1101, 1102], [])
def bX6_tally : List (Nat × ac_I) := [(0, [(.aload 0, 1), (.getfield 192, 3), (.iload 1, 1), (.aload 0, 1), (.getfield 192, 3), (.getfield 6, 3), (.multianewarray 27 48, 3), (.ireturn, 1)])]
def mX6_tally : ac_M := (yX6_tally, cX6_tally, 2, (some .int), 6, 0, 1, (0, 0), [], bX6_tally, [481, 76, 479, 480], [])
def bX6_together : List (Nat × ac_I) := [(0, [(.aload 0, 1), (.iload 1, 1), (.putstatic 32550, 3), (.aload 0, 1), (.iload 2, 1), (.putstatic 32550, 3), (.aload 0, 1), (.getfield 192, 3), (.sipush (1), 1), (.iload 1, 1), (.ishl, 1), (.sipush (1), 1), (.iload 2, 1), (.ishl, 1), (.ior, 1), (.multianewarray 24 32, 3), (.ireturn, 1)])]
def mX6_together : ac_M := (yX6_together, cX6_together, 3, (some .int), 6, 0, 2, (2, 12), [], bX6_together, [1110, 76, 1108, 1109], [])
def bX6_friends : List (Nat × ac_I) := [(0, [(.sipush (-1), 1), (.istore 1, 1), (.sipush (0), 1), (.istore 2, 1), (.sipush (0), 1), (.istore 3, 1), (.goto 1, 0)]),
  (6, [(.iload 3, 1), (.aload 0, 1), (.getfield 192, 3), (.getfield 4, 3), (.if_icmp .ge 5, 3), (.iload 3, 1), (.sipush (1), 1), (.iadd, 1), (.istore 4, 2), (.goto 2, 0)]),
  (22, [(.iload 4, 2), (.aload 0, 1), (.getfield 192, 3), (.getfield 4, 3), (.if_icmp .ge 4, 3), (.aload 0, 1), (.getfield 192, 3), (.sipush (1), 1), (.iload 3, 1), (.ishl, 1), (.sipush (1), 1), (.iload 4, 2), (.ishl, 1), (.ior, 1), (.multianewarray 24 32, 3), (.istore 5, 2), (.iload 5, 2), (.iload 2, 1), (.if_icmp .le 3, 3), (.sipush (100), 2), (.iload 3, 1), (.imul, 1), (.iload 4, 2), (.iadd, 1), (.istore 1, 1), (.iload 5, 2), (.istore 2, 1), (.goto 3, 0)]),
  (68, [(.iinc 4 (1), 3), (.goto 2, 3)]),
  (74, [(.iinc 3 (1), 3), (.goto 1, 3)]),
  (80, [(.iload 1, 1), (.ireturn, 1)])]
def mX6_friends : ac_M := (yX6_friends, cX6_friends, 6, (some .int), 6, 0, 0, (0, 0), [], bX6_friends, [489, 76, 487, 488], [])
def bX6_doubts : List (Nat × ac_I) := [(0, [(.aload 0, 1), (.iload 1, 1), (.putstatic 32550, 3), (.aload 0, 1), (.iload 2, 1), (.putstatic 32806, 3), (.aload 0, 1), (.getfield 192, 3), (.getfield 10, 3), (.iload 1, 1), (.iaload, 1), (.istore 3, 1), (.iload 3, 1), (.sipush (7), 2), (.if_icmp .eq 1, 3), (.iload 3, 1), (.sipush (8), 2), (.if_icmp .eq 1, 3), (.sipush (-1), 1), (.ireturn, 1)]),
  (34, [(.aload 0, 1), (.getfield 192, 3), (.getfield 13, 3), (.iload 2, 1), (.iaload, 1), (.istore 4, 2), (.aload 0, 1), (.getfield 192, 3), (.iload 1, 1), (.iload 4, 2), (.multianewarray 19 48, 3), (.invokeinterface 249 1, 3), (.istore 5, 2), (.ldc2_w 0, 1), (.lstore 6, 2), (.sipush (0), 1), (.istore 8, 2), (.goto 2, 0)]),
  (66, [(.iload 8, 2), (.iload 5, 2), (.if_icmp .gt 4, 3), (.aload 0, 1), (.getfield 192, 3), (.iload 1, 1), (.iload 8, 2), (.multianewarray 20 48, 3), (.aload 0, 1), (.getfield 192, 3), (.iload 4, 2), (.iload 1, 1), (.multianewarray 8 48, 3), (.if_icmp .ne 3, 3), (.lload 6, 2), (.iload 5, 2), (.iload 8, 2), (.invokeinterface 135 2, 3), (.ladd, 1), (.lstore 6, 2), (.goto 3, 0)]),
  (108, [(.iinc 8 (1), 3), (.goto 2, 3)]),
  (114, [(.lload 6, 2), (.l2i, 1), (.ireturn, 1)])]
def mX6_doubts : ac_M := (yX6_doubts, cX6_doubts, 9, (some .int), 6, 0, 2, (2, 12), [], bX6_doubts, [1117, 76, 1115, 1116], [])
def bX6_cook : List (Nat × ac_I) := [(0, [(.iload 1, 1), (.sipush (0), 1), (.sipush (3), 1), (.ret 1987, 3), (.sipush (0), 1), (.istore 2, 1), (.sipush (1), 1), (.istore 3, 1), (.goto 1, 0)]),
  (10, [(.iload 3, 1), (.aload 0, 1), (.getfield 192, 3), (.getfield 6, 3), (.if_icmp .ge 2, 3), (.iload 2, 1), (.aload 0, 1), (.getfield 192, 3), (.iload 1, 1), (.iload 3, 1), (.multianewarray 28 48, 3), (.aload 0, 1), (.getfield 192, 3), (.getfield 13, 3), (.iload 3, 1), (.iaload, 1), (.invokeinterface 249 1, 3), (.isub, 1), (.invokeinterface 252 1, 3), (.iadd, 1), (.istore 2, 1), (.iinc 3 (1), 3), (.goto 1, 3)]),
  (55, [(.iload 2, 1), (.ireturn, 1)])]
def mX6_cook : ac_M := (yX6_cook, cX6_cook, 4, (some .int), 6, 0, 1, (1, 6), [], bX6_cook, [1125, 76, 1123, 1124], [])
def bX6_guess : List (Nat × ac_I) := [(0, [(.iload 1, 1), (.sipush (0), 1), (.sipush (3), 1), (.ret 1987, 3), (.aload 0, 1), (.getfield 192, 3), (.iload 1, 1), (.aload 0, 1), (.getfield 192, 3), (.getfield 6, 3), (.multianewarray 28 48, 3), (.ireturn, 1)])]
def mX6_guess : ac_M := (yX6_guess, cX6_guess, 2, (some .int), 6, 0, 1, (1, 6), [], bX6_guess, [1147, 76, 1145, 1146], [])
def bX6_tray : List (Nat × ac_I) := [(0, [(.iload 1, 1), (.ret 2113, 3), (.iload 2, 1), (.sipush (0), 1), (.sipush (3), 1), (.ret 1987, 3), (.iload 3, 1), (.sipush (0), 1), (.sipush (60), 2), (.ret 1987, 3), (.aload 0, 1), (.getfield 199, 3), (.iload 1, 1), (.aaload, 1), (.iload 2, 1), (.iload 3, 1), (.multianewarray 57 51, 3), (.return_, 1)])]
def mX6_tray : ac_M := (yX6_tray, cX6_tray, 4, none, 6, 0, 3, (3, 18), [], bX6_tray, [1154, 76, 1152, 1153], [])
def bX6_write : List (Nat × ac_I) := [(0, [(.aload 0, 1), (.iload 1, 1), (.putstatic 34086, 3), (.astore 5, 2), (.iload 2, 1), (.ifCond .lt 1, 3), (.iload 2, 1), (.aload 5, 2), (.getfield 98, 3), (.if_icmp .lt 2, 3), (.goto 1, 0)]),
  (20, [(.instanceof 3, 8)]),
  (28, [(.aload 5, 2), (.iload 2, 1), (.lload 3, 1), (.multianewarray 58 51, 3), (.lreturn, 1)])]
def mX6_write : ac_M := (yX6_write, cX6_write, 6, (some .long), 6, 0, 3, (3, 18), [], bX6_write, [1166, 76, 1164, 1165], [])
def bX6_pour : List (Nat × ac_I) := [(0, [(.aload 0, 1), (.iload 1, 1), (.putstatic 34086, 3), (.astore 2, 1), (.aload 2, 1), (.getfield 98, 3), (.aload 0, 1), (.getfield 192, 3), (.getfield 6, 3), (.invokeinterface 255 2, 3), (.istore 3, 1), (.sipush (0), 1), (.istore 4, 2), (.goto 1, 0)]),
  (24, [(.iload 4, 2), (.iload 3, 1), (.if_icmp .ge 2, 3), (.aload 2, 1), (.iload 4, 2), (.aload 0, 1), (.getfield 192, 3), (.getfield 13, 3), (.iload 4, 2), (.iaload, 1), (.i2l, 1), (.multianewarray 58 51, 3), (.pop2, 1), (.iinc 4 (1), 3), (.goto 1, 3)]),
  (54, [(.iload 3, 1), (.ireturn, 1)])]
def mX6_pour : ac_M := (yX6_pour, cX6_pour, 5, (some .int), 6, 0, 1, (2, 12), [], bX6_pour, [1196, 76, 1194, 1195], [])
def bX6_image : List (Nat × ac_I) := [(0, [(.iload 1, 1), (.ret 2097, 3), (.aload 0, 1), (.getfield 200, 3), (.iload 1, 1), (.aaload, 1), (.aload 0, 1), (.getfield 192, 3), (.multianewarray 4 32, 3), (.aload 0, 1), (.getfield 201, 3), (.iload 1, 1), (.sipush (1), 1), (.bastore, 1), (.return_, 1)])]
def mX6_image : ac_M := (yX6_image, cX6_image, 2, none, 6, 0, 1, (1, 6), [], bX6_image, [1206, 76, 1204, 1205], [])
def bX6_restore : List (Nat × ac_I) := [(0, [(.iload 1, 1), (.ret 2097, 3), (.aload 0, 1), (.getfield 201, 3), (.iload 1, 1), (.baload, 1), (.ifCond .ne 1, 3), (.instanceof 2, 8)]),
  (21, [(.aload 0, 1), (.getfield 192, 3), (.aload 0, 1), (.getfield 200, 3), (.iload 1, 1), (.aaload, 1), (.multianewarray 4 32, 3), (.return_, 1)])]
def mX6_restore : ac_M := (yX6_restore, cX6_restore, 2, none, 6, 0, 1, (2, 12), [], bX6_restore, [1216, 76, 1214, 1215], [])
def bX6_count : List (Nat × ac_I) := [(0, [(.iload 1, 1), (.tableswitch 9 0 7 #[1, 2, 3, 4, 5, 6, 7, 8], 47)]),
  (48, [(.aload 0, 1), (.getfield 192, 3), (.getfield 0, 3), (.ireturn, 1)]),
  (56, [(.aload 0, 1), (.getfield 192, 3), (.getfield 1, 3), (.ireturn, 1)]),
  (64, [(.aload 0, 1), (.getfield 192, 3), (.getfield 2, 3), (.ireturn, 1)]),
  (72, [(.aload 0, 1), (.getfield 192, 3), (.getfield 3, 3), (.ireturn, 1)]),
  (80, [(.aload 0, 1), (.getfield 192, 3), (.getfield 4, 3), (.ireturn, 1)]),
  (88, [(.aload 0, 1), (.getfield 192, 3), (.getfield 6, 3), (.ireturn, 1)]),
  (96, [(.aload 0, 1), (.getfield 192, 3), (.multianewarray 26 16, 3), (.ireturn, 1)]),
  (104, [(.aload 0, 1), (.getfield 195, 3), (.getfield 65, 3), (.ireturn, 1)]),
  (112, [(.sipush (-1), 1), (.ireturn, 1)])]
def mX6_count : ac_M := (yX6_count, cX6_count, 2, (some .int), 6, 0, 1, (0, 0), [], bX6_count, [497, 76, 495, 496], [])
def bX6_requireWithin : List (Nat × ac_I) := [(0, [(.iload 0, 1), (.iload 1, 1), (.if_icmp .lt 1, 3), (.iload 0, 1), (.iload 2, 1), (.if_icmp .le 2, 3), (.goto 1, 0)]),
  (10, [(.instanceof 0, 8)]),
  (18, [(.return_, 1)])]
def mX6_requireWithin : ac_M := (yX6_requireWithin, cX6_requireWithin, 3, none, 6, 1, 3, (1, 6), [], bX6_requireWithin, [513, 76, 512], [])
def bX6_requireChance : List (Nat × ac_I) := [(0, [(.iload 1, 1), (.sipush (1), 1), (.sipush (20), 2), (.ret 1987, 3), (.iload 0, 1), (.sipush (0), 1), (.iload 1, 1), (.ret 1987, 3), (.return_, 1)])]
def mX6_requireChance : ac_M := (yX6_requireChance, cX6_requireChance, 2, none, 6, 1, 2, (2, 12), [], bX6_requireChance, [985, 76, 984], [])
def bX6_requireChances : List (Nat × ac_I) := [(0, [(.aload 1, 1), (.getfield 98, 3), (.aload 0, 1), (.getfield 192, 3), (.getfield 4, 3), (.if_icmp .eq 1, 3), (.instanceof 0, 8)]),
  (22, [(.sipush (0), 1), (.istore 3, 1), (.goto 2, 0)]),
  (24, [(.iload 3, 1), (.aload 1, 1), (.getfield 98, 3), (.if_icmp .ge 5, 3), (.aload 1, 1), (.getfield 99, 3), (.iload 3, 1), (.laload, 1), (.ldc2_w 0, 1), (.lcmp, 1), (.ifCond .lt 3, 3), (.aload 1, 1), (.getfield 99, 3), (.iload 3, 1), (.laload, 1), (.iload 2, 1), (.i2l, 1), (.lcmp, 1), (.ifCond .le 4, 3), (.goto 3, 0)]),
  (55, [(.instanceof 0, 8)]),
  (63, [(.iinc 3 (1), 3), (.goto 2, 3)]),
  (69, [(.return_, 1)])]
def mX6_requireChances : ac_M := (yX6_requireChances, cX6_requireChances, 4, none, 6, 0, 2, (2, 12), [], bX6_requireChances, [1010, 76, 1009, 23], [])
def bX6_requireMember : List (Nat × ac_I) := [(0, [(.iload 1, 1), (.ifCond .lt 1, 3), (.iload 1, 1), (.aload 0, 1), (.getfield 192, 3), (.getfield 4, 3), (.if_icmp .lt 2, 3), (.goto 1, 0)]),
  (15, [(.instanceof 1, 8)]),
  (23, [(.return_, 1)])]
def mX6_requireMember : ac_M := (yX6_requireMember, cX6_requireMember, 2, none, 6, 0, 1, (1, 6), [], bX6_requireMember, [719, 76, 718, 14], [])
def bX6_requireWeek : List (Nat × ac_I) := [(0, [(.iload 1, 1), (.ifCond .lt 1, 3), (.iload 1, 1), (.aload 0, 1), (.getfield 192, 3), (.getfield 6, 3), (.if_icmp .lt 2, 3), (.goto 1, 0)]),
  (15, [(.instanceof 1, 8)]),
  (23, [(.return_, 1)])]
def mX6_requireWeek : ac_M := (yX6_requireWeek, cX6_requireWeek, 2, none, 6, 0, 1, (1, 6), [], bX6_requireWeek, [811, 76, 810, 17], [])
def bX6_requireRoomForWeek : List (Nat × ac_I) := [(0, [(.aload 0, 1), (.getfield 192, 3), (.getfield 6, 3), (.sipush (60), 2), (.if_icmp .lt 1, 3), (.instanceof 2, 8)]),
  (20, [(.return_, 1)])]
def mX6_requireRoomForWeek : ac_M := (yX6_requireRoomForWeek, cX6_requireRoomForWeek, 1, none, 6, 0, 0, (1, 6), [], bX6_requireRoomForWeek, [757, 76, 756, 15], [])
def bX6_requireSet : List (Nat × ac_I) := [(0, [(.iload 1, 1), (.aload 0, 1), (.getfield 192, 3), (.multianewarray 7 16, 3), (.sipush (-1), 1), (.ixor, 1), (.iand, 1), (.ifCond .eq 1, 3), (.instanceof 0, 8)]),
  (22, [(.return_, 1)])]
def mX6_requireSet : ac_M := (yX6_requireSet, cX6_requireSet, 2, none, 6, 0, 1, (1, 6), [], bX6_requireSet, [792, 76, 791, 16], [])
def bX6_requireImage : List (Nat × ac_I) := [(0, [(.iload 0, 1), (.ifCond .lt 1, 3), (.iload 0, 1), (.sipush (3), 1), (.if_icmp .lt 2, 3), (.goto 1, 0)]),
  (9, [(.instanceof 1, 8)]),
  (17, [(.return_, 1)])]
def mX6_requireImage : ac_M := (yX6_requireImage, cX6_requireImage, 1, none, 6, 1, 1, (1, 6), [], bX6_requireImage, [1209, 76, 1208], [])
def bX6_requireTray : List (Nat × ac_I) := [(0, [(.iload 0, 1), (.ifCond .lt 1, 3), (.iload 0, 1), (.sipush (4), 1), (.if_icmp .lt 2, 3), (.goto 1, 0)]),
  (9, [(.instanceof 1, 8)]),
  (17, [(.return_, 1)])]
def mX6_requireTray : ac_M := (yX6_requireTray, cX6_requireTray, 1, none, 6, 1, 1, (1, 6), [], bX6_requireTray, [849, 76, 848], [])
def bX6_laidTray : List (Nat × ac_I) := [(0, [(.iload 1, 1), (.ret 2113, 3), (.aload 0, 1), (.getfield 199, 3), (.iload 1, 1), (.aaload, 1), (.astore 2, 1), (.aload 2, 1), (.getfield 96, 3), (.ifCond .ne 1, 3), (.instanceof 2, 8)]),
  (26, [(.aload 2, 1), (.areturn, 1)])]
def mX6_laidTray : ac_M := (yX6_laidTray, cX6_laidTray, 3, (some (.object "NobodysTuesday$Tray")), 6, 0, 1, (2, 12), [], bX6_laidTray, [846, 76, 845, 18], [])
def bX6_waysThat : List (Nat × ac_I) := [(0, [(.iload 1, 1), (.ifCond .lt 1, 3), (.iload 1, 1), (.iload 0, 1), (.if_icmp .le 2, 3), (.goto 1, 0)]),
  (9, [(.ldc2_w 0, 1), (.lreturn, 1)]),
  (11, [(.iload 0, 1), (.iload 1, 1), (.invokeinterface 135 2, 3), (.iload 2, 1), (.iload 1, 1), (.invokeinterface 136 2, 3), (.lmul, 1), (.iload 3, 1), (.iload 2, 1), (.isub, 1), (.iload 0, 1), (.iload 1, 1), (.isub, 1), (.invokeinterface 136 2, 3), (.lmul, 1), (.lreturn, 1)])]
def mX6_waysThat : ac_M := (yX6_waysThat, cX6_waysThat, 4, (some .long), 6, 1, 4, (0, 0), [], bX6_waysThat, [988, 76, 987], [])
def bX6_choose : List (Nat × ac_I) := [(0, [(.ldc2_w 1, 1), (.lstore 2, 1), (.sipush (1), 1), (.istore 4, 2), (.goto 1, 0)]),
  (5, [(.iload 4, 2), (.iload 1, 1), (.if_icmp .gt 2, 3), (.lload 2, 1), (.iload 0, 1), (.iload 1, 1), (.isub, 1), (.iload 4, 2), (.iadd, 1), (.i2l, 1), (.lmul, 1), (.iload 4, 2), (.i2l, 1), (.ldiv, 1), (.lstore 2, 1), (.iinc 4 (1), 3), (.goto 1, 3)]),
  (31, [(.lload 2, 1), (.lreturn, 1)])]
def mX6_choose : ac_M := (yX6_choose, cX6_choose, 5, (some .long), 6, 1, 2, (0, 0), [], bX6_choose, [991, 76, 990], [])
def bX6_power : List (Nat × ac_I) := [(0, [(.ldc2_w 1, 1), (.lstore 2, 1), (.sipush (0), 1), (.istore 4, 2), (.goto 1, 0)]),
  (5, [(.iload 4, 2), (.iload 1, 1), (.if_icmp .ge 2, 3), (.lload 2, 1), (.iload 0, 1), (.i2l, 1), (.lmul, 1), (.lstore 2, 1), (.iinc 4 (1), 3), (.goto 1, 3)]),
  (22, [(.lload 2, 1), (.lreturn, 1)])]
def mX6_power : ac_M := (yX6_power, cX6_power, 5, (some .long), 6, 1, 2, (0, 0), [], bX6_power, [912, 76, 911], [])
def bX7_init : List (Nat × ac_I) := [(0, [(.aload 0, 1), (.monitorexit, 3), (.aload 0, 1), (.sipush (114), 2), (.newarray .int, 2), (.putfield 224, 3), (.aload 0, 1), (.sipush (114), 2), (.newarray .int, 2), (.putfield 225, 3), (.aload 0, 1), (.sipush (342), 3), (.newarray .int, 2), (.putfield 226, 3), (.aload 0, 1), (.sipush (3), 1), (.newarray .boolean, 2), (.putfield 227, 3), (.aload 0, 1), (.sipush (700), 3), (.newarray .int, 2), (.putfield 229, 3), (.aload 0, 1), (.sipush (-1), 1), (.putfield 239, 3), (.aload 0, 1), (.sipush (480), 3), (.newarray .int, 2), (.putfield 240, 3), (.aload 0, 1), (.sipush (12), 2), (.newarray .int, 2), (.putfield 243, 3), (.aload 0, 1), (.sipush (182), 3), (.newarray .int, 2), (.putfield 244, 3), (.aload 0, 1), (.sipush (8), 2), (.newarray .int, 2), (.putfield 245, 3), (.aload 0, 1), (.sipush (3), 1), (.newarray .int, 2), (.putfield 246, 3), (.aload 0, 1), (.sipush (14), 2), (.newarray .long, 2), (.putfield 247, 3), (.aload 0, 1), (.sipush (401), 3), (.newarray .int, 2), (.putfield 248, 3), (.aload 0, 1), (.sipush (4), 1), (.newarray .int, 2), (.dup, 1), (.sipush (0), 1), (.sipush (-1), 1), (.iastore, 1), (.dup, 1), (.sipush (1), 1), (.sipush (-1), 1), (.iastore, 1), (.dup, 1), (.sipush (2), 1), (.sipush (-1), 1), (.iastore, 1), (.dup, 1), (.sipush (3), 1), (.sipush (-1), 1), (.iastore, 1), (.putfield 249, 3), (.aload 0, 1), (.sipush (4), 1), (.newarray .int, 2), (.putfield 250, 3), (.aload 0, 1), (.sipush (240), 3), (.newarray .long, 2), (.putfield 251, 3), (.aload 0, 1), (.getfield 224, 3), (.invokeinterface 144 1, 3), (.return_, 1)])]
def mX7_init : ac_M := (yX7_init, cX7_init, 1, none, 7, 2, 0, (15, 2621), [], bX7_init, [1221, 83, 1220], [])
def bX7_thrown : List (Nat × ac_I) := [(0, [(.aload 0, 1), (.getfield 228, 3), (.ireturn, 1)])]
def mX7_thrown : ac_M := (yX7_thrown, cX7_thrown, 1, (some .int), 7, 0, 0, (0, 0), [], bX7_thrown, [1314, 83, 1312, 1313], [])
def bX7_fails : List (Nat × ac_I) := [(0, [(.aload 0, 1), (.iload 1, 1), (.putfield 228, 3), (.sipush (0), 1), (.ireturn, 1)])]
def mX7_fails : ac_M := (yX7_fails, cX7_fails, 2, (some .int), 7, 0, 1, (0, 0), [], bX7_fails, [1329, 83, 1328, 27], [])
def bX7_within : List (Nat × ac_I) := [(0, [(.lload 0, 1), (.lload 2, 1), (.lcmp, 1), (.ifCond .lt 1, 3), (.lload 0, 1), (.lload 4, 2), (.lcmp, 1), (.ifCond .gt 1, 3), (.sipush (1), 1), (.goto 2, 3)]),
  (17, [(.sipush (0), 1), (.goto 2, 0)]),
  (18, [(.ireturn, 1)])]
def mX7_within : ac_M := (yX7_within, cX7_within, 6, (some .boolean), 7, 1, 3, (0, 0), [], bX7_within, [1325, 83, 1324], [])
def bX7_has : List (Nat × ac_I) := [(0, [(.iload 0, 1), (.iload 1, 1), (.ishr, 1), (.sipush (1), 1), (.iand, 1), (.sipush (1), 1), (.if_icmp .ne 1, 3), (.sipush (1), 1), (.goto 2, 3)]),
  (13, [(.sipush (0), 1), (.goto 2, 0)]),
  (14, [(.ireturn, 1)])]
def mX7_has : ac_M := (yX7_has, cX7_has, 2, (some .boolean), 7, 1, 2, (0, 0), [], bX7_has, [1421, 83, 1420], [])
def bX7_size : List (Nat × ac_I) := [(0, [(.sipush (0), 1), (.istore 1, 1), (.iload 0, 1), (.istore 2, 1), (.goto 1, 0)]),
  (4, [(.iload 2, 1), (.ifCond .eq 2, 3), (.iinc 1 (1), 3), (.iload 2, 1), (.iload 2, 1), (.sipush (1), 1), (.isub, 1), (.iand, 1), (.istore 2, 1), (.goto 1, 3)]),
  (20, [(.iload 1, 1), (.ireturn, 1)])]
def mX7_size : ac_M := (yX7_size, cX7_size, 3, (some .int), 7, 1, 1, (0, 0), [], bX7_size, [1428, 83, 1427], [])
def bX7_copies : List (Nat × ac_I) := [(0, [(.sipush (0), 1), (.istore 2, 1), (.goto 1, 0)]),
  (2, [(.iload 2, 1), (.sipush (114), 2), (.if_icmp .ge 2, 3), (.aload 1, 1), (.iload 2, 1), (.aload 0, 1), (.iload 2, 1), (.iaload, 1), (.iastore, 1), (.iinc 2 (1), 3), (.goto 1, 3)]),
  (20, [(.return_, 1)])]
def mX7_copies : ac_M := (yX7_copies, cX7_copies, 3, none, 7, 1, 2, (0, 0), [], bX7_copies, [1393, 83, 1392], [])
def bX7_begins : List (Nat × ac_I) := [(0, [(.sipush (0), 1), (.istore 1, 1), (.goto 1, 0)]),
  (2, [(.iload 1, 1), (.sipush (114), 2), (.if_icmp .ge 2, 3), (.aload 0, 1), (.iload 1, 1), (.sipush (0), 1), (.iastore, 1), (.iinc 1 (1), 3), (.goto 1, 3)]),
  (18, [(.aload 0, 1), (.sipush (1), 1), (.sipush (1), 1), (.iastore, 1), (.aload 0, 1), (.sipush (2), 1), (.sipush (10), 2), (.iastore, 1), (.return_, 1)])]
def mX7_begins : ac_M := (yX7_begins, cX7_begins, 2, none, 7, 1, 1, (0, 0), [], bX7_begins, [1225, 83, 1224], [])
def bX7_feed : List (Nat × ac_I) := [(0, [(.aload 0, 1), (.sipush (0), 1), (.putfield 228, 3), (.aload 0, 1), (.getfield 230, 3), (.sipush (20), 2), (.iadd, 1), (.sipush (700), 3), (.if_icmp .le 1, 3), (.sipush (-1), 1), (.ireturn, 1)]),
  (20, [(.sipush (0), 1), (.istore 6, 2), (.goto 2, 0)]),
  (23, [(.iload 6, 2), (.sipush (20), 2), (.if_icmp .ge 8, 3), (.iload 6, 2), (.sipush (4), 1), (.if_icmp .ge 3, 3), (.iload 1, 1), (.goto 7, 3)]),
  (40, [(.iload 6, 2), (.sipush (8), 2), (.if_icmp .ge 4, 3), (.iload 2, 1), (.goto 7, 3)]),
  (51, [(.iload 6, 2), (.sipush (12), 2), (.if_icmp .ge 5, 3), (.iload 3, 1), (.goto 7, 3)]),
  (62, [(.iload 6, 2), (.sipush (16), 2), (.if_icmp .ge 6, 3), (.iload 4, 2), (.goto 7, 3)]),
  (74, [(.iload 5, 2), (.goto 7, 0)]),
  (76, [(.istore 7, 2), (.aload 0, 1), (.getfield 229, 3), (.aload 0, 1), (.getfield 230, 3), (.iload 7, 2), (.sipush (24), 2), (.sipush (8), 2), (.iload 6, 2), (.sipush (3), 1), (.iand, 1), (.imul, 1), (.isub, 1), (.iushr, 1), (.sipush (255), 3), (.iand, 1), (.iastore, 1), (.aload 0, 1), (.dup, 1), (.getfield 230, 3), (.sipush (1), 1), (.iadd, 1), (.putfield 230, 3), (.iinc 6 (1), 3), (.goto 2, 3)]),
  (120, [(.aload 0, 1), (.getfield 230, 3), (.ireturn, 1)])]
def mX7_feed : ac_M := (yX7_feed, cX7_feed, 8, (some .int), 7, 0, 5, (0, 0), [], bX7_feed, [1318, 83, 1316, 1317], [])
def bX7_see : List (Nat × ac_I) := [(0, [(.iload 1, 1), (.aload 0, 1), (.getfield 231, 3), (.if_icmp .ge 1, 3), (.aload 0, 1), (.getfield 229, 3), (.iload 1, 1), (.iaload, 1), (.goto 2, 3)]),
  (17, [(.sipush (0), 1), (.goto 2, 0)]),
  (18, [(.ireturn, 1)])]
def mX7_see : ac_M := (yX7_see, cX7_see, 2, (some .int), 7, 0, 1, (0, 0), [], bX7_see, [1340, 83, 1339, 29], [])
def bX7_isLetter : List (Nat × ac_I) := [(0, [(.iload 0, 1), (.sipush (97), 2), (.if_icmp .lt 1, 3), (.iload 0, 1), (.sipush (122), 2), (.if_icmp .gt 1, 3), (.sipush (1), 1), (.goto 2, 3)]),
  (16, [(.sipush (0), 1), (.goto 2, 0)]),
  (17, [(.ireturn, 1)])]
def mX7_isLetter : ac_M := (yX7_isLetter, cX7_isLetter, 1, (some .boolean), 7, 1, 1, (0, 0), [], bX7_isLetter, [1336, 83, 1335], [])
def ms4 : List ac_M := [mX6_bestRule, mX6_streak, mX6_tally, mX6_together, mX6_friends, mX6_doubts, mX6_cook, mX6_guess, mX6_tray, mX6_write, mX6_pour, mX6_image, mX6_restore, mX6_count, mX6_requireWithin, mX6_requireChance, mX6_requireChances, mX6_requireMember, mX6_requireWeek, mX6_requireRoomForWeek, mX6_requireSet, mX6_requireImage, mX6_requireTray, mX6_laidTray, mX6_waysThat, mX6_choose, mX6_power, mX7_init, mX7_thrown, mX7_fails, mX7_within, mX7_has, mX7_size, mX7_copies, mX7_begins, mX7_feed, mX7_see, mX7_isLetter]
def bX7_isDigit : List (Nat × ac_I) := [(0, [(.iload 0, 1), (.sipush (48), 2), (.if_icmp .lt 1, 3), (.iload 0, 1), (.sipush (57), 2), (.if_icmp .gt 1, 3), (.sipush (1), 1), (.goto 2, 3)]),
  (16, [(.sipush (0), 1), (.goto 2, 0)]),
  (17, [(.ireturn, 1)])]
def mX7_isDigit : ac_M := (yX7_isDigit, cX7_isDigit, 1, (some .boolean), 7, 1, 1, (0, 0), [], bX7_isDigit, [1343, 83, 1342], [])
def bX7_reads : List (Nat × ac_I) := [(0, [(.aload 0, 1), (.getfield 232, 3), (.aload 0, 1), (.getfield 231, 3), (.if_icmp .ge 2, 3), (.aload 0, 1), (.getfield 229, 3), (.aload 0, 1), (.getfield 232, 3), (.iaload, 1), (.sipush (32), 2), (.if_icmp .eq 1, 3), (.aload 0, 1), (.getfield 229, 3), (.aload 0, 1), (.getfield 232, 3), (.iaload, 1), (.sipush (10), 2), (.if_icmp .ne 2, 3), (.goto 1, 0)]),
  (39, [(.aload 0, 1), (.dup, 1), (.getfield 232, 3), (.sipush (1), 1), (.iadd, 1), (.putfield 232, 3), (.goto 0, 3)]),
  (52, [(.aload 0, 1), (.aload 0, 1), (.getfield 232, 3), (.putfield 233, 3), (.aload 0, 1), (.getfield 232, 3), (.aload 0, 1), (.getfield 231, 3), (.if_icmp .lt 3, 3), (.aload 0, 1), (.sipush (0), 1), (.putfield 234, 3), (.return_, 1)]),
  (77, [(.aload 0, 1), (.getfield 229, 3), (.aload 0, 1), (.getfield 232, 3), (.iaload, 1), (.istore 1, 1), (.iload 1, 1), (.invokeinterface 147 1, 3), (.ifCond .eq 6, 3), (.goto 4, 0)]),
  (94, [(.aload 0, 1), (.aload 0, 1), (.getfield 232, 3), (.multianewarray 146 39, 3), (.invokeinterface 147 1, 3), (.ifCond .eq 5, 3), (.aload 0, 1), (.dup, 1), (.getfield 232, 3), (.sipush (1), 1), (.iadd, 1), (.putfield 232, 3), (.goto 4, 3)]),
  (121, [(.aload 0, 1), (.sipush (1), 1), (.putfield 234, 3), (.goto 16, 3)]),
  (129, [(.iload 1, 1), (.invokeinterface 148 1, 3), (.ifCond .eq 13, 3), (.aload 0, 1), (.sipush (0), 1), (.putfield 235, 3), (.goto 7, 0)]),
  (141, [(.aload 0, 1), (.aload 0, 1), (.getfield 232, 3), (.multianewarray 146 39, 3), (.invokeinterface 148 1, 3), (.ifCond .eq 10, 3), (.aload 0, 1), (.aload 0, 1), (.getfield 232, 3), (.aload 0, 1), (.getfield 233, 3), (.isub, 1), (.sipush (3), 1), (.if_icmp .ge 8, 3), (.sipush (10), 2), (.aload 0, 1), (.getfield 235, 3), (.imul, 1), (.aload 0, 1), (.getfield 229, 3), (.aload 0, 1), (.getfield 232, 3), (.iaload, 1), (.iadd, 1), (.sipush (48), 2), (.isub, 1), (.goto 9, 3)]),
  (192, [(.aload 0, 1), (.getfield 235, 3), (.goto 9, 0)]),
  (196, [(.putfield 235, 3), (.aload 0, 1), (.dup, 1), (.getfield 232, 3), (.sipush (1), 1), (.iadd, 1), (.putfield 232, 3), (.goto 7, 3)]),
  (212, [(.aload 0, 1), (.aload 0, 1), (.getfield 232, 3), (.aload 0, 1), (.getfield 233, 3), (.isub, 1), (.sipush (3), 1), (.if_icmp .le 11, 3), (.sipush (4), 1), (.goto 12, 3)]),
  (230, [(.sipush (2), 1), (.goto 12, 0)]),
  (231, [(.putfield 234, 3), (.goto 16, 3)]),
  (237, [(.aload 0, 1), (.iload 1, 1), (.sipush (59), 2), (.if_icmp .ne 14, 3), (.sipush (3), 1), (.goto 15, 3)]),
  (248, [(.sipush (4), 1), (.goto 15, 0)]),
  (249, [(.putfield 234, 3), (.aload 0, 1), (.dup, 1), (.getfield 232, 3), (.sipush (1), 1), (.iadd, 1), (.putfield 232, 3), (.goto 16, 0)]),
  (262, [(.return_, 1)])]
def mX7_reads : ac_M := (yX7_reads, cX7_reads, 2, none, 7, 0, 0, (0, 0), [], bX7_reads, [1333, 83, 1332, 28], [])
def bX7_blames : List (Nat × ac_I) := [(0, [(.aload 0, 1), (.getfield 236, 3), (.ifCond .eq 1, 3), (.return_, 1)]),
  (8, [(.aload 0, 1), (.aload 0, 1), (.getfield 234, 3), (.sipush (4), 1), (.if_icmp .ne 2, 3), (.sipush (1), 1), (.goto 3, 3)]),
  (21, [(.iload 1, 1), (.goto 3, 0)]),
  (22, [(.putfield 236, 3), (.aload 0, 1), (.aload 0, 1), (.getfield 233, 3), (.putfield 237, 3), (.return_, 1)])]
def mX7_blames : ac_M := (yX7_blames, cX7_blames, 2, none, 7, 0, 1, (0, 0), [], bX7_blames, [1366, 83, 1365, 34], [])
def bX7_isWord : List (Nat × ac_I) := [(0, [(.aload 0, 1), (.getfield 236, 3), (.ifCond .ne 1, 3), (.aload 0, 1), (.getfield 234, 3), (.sipush (1), 1), (.if_icmp .ne 1, 3), (.aload 0, 1), (.getfield 232, 3), (.aload 0, 1), (.getfield 233, 3), (.isub, 1), (.aload 1, 1), (.invokedynamic 0, 3), (.if_icmp .ne 1, 3), (.sipush (1), 1), (.goto 2, 3)]),
  (35, [(.sipush (0), 1), (.goto 2, 0)]),
  (36, [(.istore 2, 1), (.sipush (0), 1), (.istore 3, 1), (.goto 3, 0)]),
  (39, [(.iload 2, 1), (.ifCond .eq 6, 3), (.iload 3, 1), (.aload 1, 1), (.invokedynamic 0, 3), (.if_icmp .ge 6, 3), (.aload 0, 1), (.getfield 229, 3), (.aload 0, 1), (.getfield 233, 3), (.iload 3, 1), (.iadd, 1), (.iaload, 1), (.aload 1, 1), (.iload 3, 1), (.invokedynamic 1, 3), (.if_icmp .ne 4, 3), (.sipush (1), 1), (.goto 5, 3)]),
  (74, [(.sipush (0), 1), (.goto 5, 0)]),
  (75, [(.istore 2, 1), (.iinc 3 (1), 3), (.goto 3, 3)]),
  (82, [(.iload 2, 1), (.ireturn, 1)])]
def mX7_isWord : ac_M := (yX7_isWord, cX7_isWord, 4, (some .boolean), 7, 0, 1, (0, 0), [], bX7_isWord, [1356, 83, 1355, 32], [])
def bX7_took : List (Nat × ac_I) := [(0, [(.aload 0, 1), (.aload 1, 1), (.multianewarray 151 39, 3), (.istore 2, 1), (.iload 2, 1), (.ifCond .eq 1, 3), (.aload 0, 1), (.multianewarray 149 23, 3), (.goto 1, 0)]),
  (14, [(.iload 2, 1), (.ireturn, 1)])]
def mX7_took : ac_M := (yX7_took, cX7_took, 3, (some .boolean), 7, 0, 1, (0, 0), [], bX7_took, [1352, 83, 1351, 31], [])
def bX7_number : List (Nat × ac_I) := [(0, [(.aload 0, 1), (.getfield 234, 3), (.sipush (2), 1), (.if_icmp .eq 1, 3), (.aload 0, 1), (.sipush (2), 1), (.multianewarray 150 39, 3), (.goto 2, 3)]),
  (16, [(.aload 0, 1), (.getfield 235, 3), (.i2l, 1), (.iload 1, 1), (.i2l, 1), (.iload 2, 1), (.i2l, 1), (.invokeinterface 140 3, 3), (.ifCond .ne 2, 3), (.aload 0, 1), (.sipush (3), 1), (.multianewarray 150 39, 3), (.goto 2, 0)]),
  (36, [(.aload 0, 1), (.getfield 235, 3), (.istore 3, 1), (.aload 0, 1), (.getfield 236, 3), (.ifCond .ne 3, 3), (.aload 0, 1), (.multianewarray 149 23, 3), (.goto 3, 0)]),
  (52, [(.aload 0, 1), (.getfield 236, 3), (.ifCond .ne 4, 3), (.iload 3, 1), (.goto 5, 3)]),
  (63, [(.iload 1, 1), (.goto 5, 0)]),
  (64, [(.ireturn, 1)])]
def mX7_number : ac_M := (yX7_number, cX7_number, 4, (some .int), 7, 0, 2, (0, 0), [], bX7_number, [1362, 83, 1361, 33], [])
def bX7_ruleTold : List (Nat × ac_I) := [(0, [(.aload 0, 1), (.ldc 1, 2), (.multianewarray 151 39, 3), (.ifCond .eq 1, 3), (.sipush (0), 1), (.ireturn, 1)]),
  (11, [(.aload 0, 1), (.ldc 2, 2), (.multianewarray 151 39, 3), (.ifCond .eq 2, 3), (.sipush (1), 1), (.ireturn, 1)]),
  (22, [(.aload 0, 1), (.ldc 3, 2), (.multianewarray 151 39, 3), (.ifCond .eq 3, 3), (.sipush (2), 1), (.ireturn, 1)]),
  (33, [(.aload 0, 1), (.ldc 4, 2), (.multianewarray 151 39, 3), (.ifCond .eq 4, 3), (.sipush (3), 1), (.ireturn, 1)]),
  (44, [(.aload 0, 1), (.ldc 5, 2), (.multianewarray 151 39, 3), (.ifCond .eq 5, 3), (.sipush (4), 1), (.ireturn, 1)]),
  (55, [(.aload 0, 1), (.ldc 6, 2), (.multianewarray 151 39, 3), (.ifCond .eq 6, 3), (.sipush (5), 1), (.ireturn, 1)]),
  (66, [(.aload 0, 1), (.ldc 7, 2), (.multianewarray 151 39, 3), (.ifCond .eq 7, 3), (.sipush (6), 2), (.ireturn, 1)]),
  (78, [(.aload 0, 1), (.ldc 8, 2), (.multianewarray 151 39, 3), (.ifCond .eq 8, 3), (.sipush (7), 2), (.ireturn, 1)]),
  (90, [(.aload 0, 1), (.ldc 9, 2), (.multianewarray 151 39, 3), (.ifCond .eq 9, 3), (.sipush (8), 2), (.ireturn, 1)]),
  (102, [(.aload 0, 1), (.ldc 10, 2), (.multianewarray 151 39, 3), (.ifCond .eq 10, 3), (.sipush (9), 2), (.ireturn, 1)]),
  (114, [(.aload 0, 1), (.ldc 11, 2), (.multianewarray 151 39, 3), (.ifCond .eq 11, 3), (.sipush (10), 2), (.goto 12, 3)]),
  (128, [(.sipush (-1), 1), (.goto 12, 0)]),
  (129, [(.ireturn, 1)])]
def mX7_ruleTold : ac_M := (yX7_ruleTold, cX7_ruleTold, 1, (some .int), 7, 0, 0, (0, 0), [], bX7_ruleTold, [1377, 83, 1376, 36], [])
def bX7_readMember : List (Nat × ac_I) := [(0, [(.aload 0, 1), (.getfield 225, 3), (.sipush (4), 1), (.iaload, 1), (.sipush (12), 2), (.if_icmp .ne 1, 3), (.aload 0, 1), (.sipush (4), 1), (.multianewarray 150 39, 3), (.goto 1, 0)]),
  (16, [(.aload 0, 1), (.getfield 236, 3), (.ifCond .eq 2, 3), (.return_, 1)]),
  (24, [(.aload 0, 1), (.multianewarray 149 23, 3), (.aload 0, 1), (.multianewarray 154 23, 3), (.istore 1, 1), (.iload 1, 1), (.sipush (-1), 1), (.if_icmp .ne 3, 3), (.aload 0, 1), (.sipush (2), 1), (.multianewarray 150 39, 3), (.goto 3, 0)]),
  (43, [(.aload 0, 1), (.getfield 236, 3), (.ifCond .eq 4, 3), (.return_, 1)]),
  (51, [(.aload 0, 1), (.multianewarray 149 23, 3), (.iload 1, 1), (.sipush (4), 1), (.if_icmp .lt 5, 3), (.iload 1, 1), (.sipush (10), 2), (.if_icmp .ne 6, 3), (.goto 5, 0)]),
  (66, [(.sipush (0), 1), (.goto 9, 3)]),
  (70, [(.iload 1, 1), (.sipush (6), 2), (.if_icmp .ne 7, 3), (.aload 0, 1), (.sipush (1), 1), (.sipush (12), 2), (.multianewarray 153 55, 3), (.goto 9, 3)]),
  (86, [(.iload 1, 1), (.sipush (9), 2), (.if_icmp .ne 8, 3), (.aload 0, 1), (.sipush (0), 1), (.sipush (6), 2), (.multianewarray 153 55, 3), (.goto 9, 3)]),
  (102, [(.aload 0, 1), (.sipush (0), 1), (.sipush (12), 2), (.multianewarray 153 55, 3), (.goto 9, 0)]),
  (109, [(.istore 2, 1), (.aload 0, 1), (.ldc 12, 2), (.multianewarray 152 39, 3), (.ifCond .eq 10, 3), (.aload 0, 1), (.sipush (0), 1), (.sipush (999), 3), (.multianewarray 153 55, 3), (.goto 11, 3)]),
  (130, [(.sipush (0), 1), (.goto 11, 0)]),
  (131, [(.istore 3, 1), (.aload 0, 1), (.ldc 13, 2), (.multianewarray 152 39, 3), (.ifCond .eq 12, 3), (.sipush (1), 1), (.goto 13, 3)]),
  (145, [(.sipush (0), 1), (.goto 13, 0)]),
  (146, [(.istore 4, 2), (.aload 0, 1), (.getfield 236, 3), (.ifCond .eq 14, 3), (.return_, 1)]),
  (156, [(.sipush (6), 2), (.sipush (4), 1), (.aload 0, 1), (.getfield 225, 3), (.sipush (4), 1), (.iaload, 1), (.imul, 1), (.iadd, 1), (.istore 5, 2), (.aload 0, 1), (.getfield 225, 3), (.iload 5, 2), (.sipush (0), 1), (.iadd, 1), (.iload 1, 1), (.iastore, 1), (.aload 0, 1), (.getfield 225, 3), (.iload 5, 2), (.sipush (1), 1), (.iadd, 1), (.iload 2, 1), (.iastore, 1), (.aload 0, 1), (.getfield 225, 3), (.iload 5, 2), (.sipush (2), 1), (.iadd, 1), (.iload 3, 1), (.iastore, 1), (.aload 0, 1), (.getfield 225, 3), (.iload 5, 2), (.sipush (3), 1), (.iadd, 1), (.iload 4, 2), (.iastore, 1), (.aload 0, 1), (.getfield 225, 3), (.sipush (4), 1), (.dup2, 1), (.iaload, 1), (.sipush (1), 1), (.iadd, 1), (.iastore, 1), (.return_, 1)])]
def mX7_readMember : ac_M := (yX7_readMember, cX7_readMember, 6, none, 7, 0, 0, (0, 0), [], bX7_readMember, [1373, 83, 1372, 35], [])
def bX7_readLine : List (Nat × ac_I) := [(0, [(.aload 0, 1), (.ldc 14, 2), (.multianewarray 152 39, 3), (.ifCond .eq 1, 3), (.aload 0, 1), (.getfield 225, 3), (.sipush (1), 1), (.aload 0, 1), (.sipush (1), 1), (.sipush (12), 2), (.multianewarray 153 55, 3), (.iastore, 1), (.goto 5, 3)]),
  (25, [(.aload 0, 1), (.ldc 15, 2), (.multianewarray 152 39, 3), (.ifCond .eq 2, 3), (.aload 0, 1), (.getfield 225, 3), (.sipush (2), 1), (.aload 0, 1), (.sipush (0), 1), (.sipush (999), 3), (.multianewarray 153 55, 3), (.iastore, 1), (.goto 5, 3)]),
  (51, [(.aload 0, 1), (.ldc 16, 2), (.multianewarray 152 39, 3), (.ifCond .eq 3, 3), (.aload 0, 1), (.getfield 225, 3), (.sipush (3), 1), (.aload 0, 1), (.sipush (0), 1), (.sipush (100), 2), (.multianewarray 153 55, 3), (.iastore, 1), (.goto 5, 3)]),
  (76, [(.aload 0, 1), (.ldc 0, 2), (.multianewarray 151 39, 3), (.ifCond .eq 4, 3), (.aload 0, 1), (.multianewarray 155 23, 3), (.goto 5, 3)]),
  (92, [(.aload 0, 1), (.sipush (2), 1), (.multianewarray 150 39, 3), (.goto 5, 0)]),
  (97, [(.aload 0, 1), (.getfield 234, 3), (.sipush (3), 1), (.if_icmp .eq 6, 3), (.aload 0, 1), (.sipush (2), 1), (.multianewarray 150 39, 3), (.goto 6, 0)]),
  (110, [(.aload 0, 1), (.getfield 236, 3), (.ifCond .ne 7, 3), (.aload 0, 1), (.multianewarray 149 23, 3), (.goto 7, 0)]),
  (121, [(.aload 0, 1), (.getfield 236, 3), (.ifCond .ne 8, 3), (.aload 0, 1), (.getfield 225, 3), (.sipush (0), 1), (.dup2, 1), (.iaload, 1), (.sipush (1), 1), (.iadd, 1), (.iastore, 1), (.goto 8, 0)]),
  (138, [(.return_, 1)])]
def mX7_readLine : ac_M := (yX7_readLine, cX7_readLine, 1, none, 7, 0, 0, (0, 0), [], bX7_readLine, [1347, 83, 1346, 30], [])
def bX7_club : List (Nat × ac_I) := [(0, [(.aload 0, 1), (.sipush (0), 1), (.putfield 228, 3), (.iload 1, 1), (.i2l, 1), (.ldc2_w 0, 1), (.aload 0, 1), (.getfield 230, 3), (.i2l, 1), (.invokeinterface 140 3, 3), (.ifCond .ne 1, 3), (.aload 0, 1), (.sipush (1), 1), (.multianewarray 139 39, 3), (.ireturn, 1)]),
  (25, [(.aload 0, 1), (.iload 1, 1), (.putfield 231, 3), (.aload 0, 1), (.sipush (0), 1), (.putfield 230, 3), (.aload 0, 1), (.sipush (0), 1), (.putfield 232, 3), (.aload 0, 1), (.sipush (0), 1), (.putfield 236, 3), (.aload 0, 1), (.getfield 225, 3), (.invokeinterface 144 1, 3), (.aload 0, 1), (.multianewarray 149 23, 3), (.goto 2, 0)]),
  (56, [(.aload 0, 1), (.getfield 236, 3), (.ifCond .ne 3, 3), (.aload 0, 1), (.getfield 234, 3), (.ifCond .eq 3, 3), (.aload 0, 1), (.multianewarray 156 23, 3), (.goto 2, 3)]),
  (77, [(.aload 0, 1), (.aload 0, 1), (.getfield 236, 3), (.putfield 238, 3), (.aload 0, 1), (.aload 0, 1), (.getfield 236, 3), (.ifCond .ne 4, 3), (.sipush (-1), 1), (.goto 5, 3)]),
  (97, [(.aload 0, 1), (.getfield 237, 3), (.goto 5, 0)]),
  (101, [(.putfield 239, 3), (.aload 0, 1), (.getfield 236, 3), (.ifCond .eq 6, 3), (.sipush (-10), 2), (.aload 0, 1), (.getfield 236, 3), (.isub, 1), (.ireturn, 1)]),
  (119, [(.aload 0, 1), (.getfield 225, 3), (.aload 0, 1), (.getfield 224, 3), (.invokeinterface 143 2, 3), (.aload 0, 1), (.getfield 224, 3), (.sipush (0), 1), (.iaload, 1), (.ireturn, 1)])]
def mX7_club : ac_M := (yX7_club, cX7_club, 2, (some .int), 7, 0, 1, (0, 0), [], bX7_club, [1322, 83, 1320, 1321], [])
def bX7_fault : List (Nat × ac_I) := [(0, [(.aload 0, 1), (.sipush (0), 1), (.putfield 228, 3), (.iload 1, 1), (.ifCond .ne 1, 3), (.aload 0, 1), (.getfield 238, 3), (.goto 3, 3)]),
  (16, [(.iload 1, 1), (.sipush (1), 1), (.if_icmp .ne 2, 3), (.aload 0, 1), (.getfield 239, 3), (.goto 3, 3)]),
  (28, [(.sipush (-1), 1), (.goto 3, 0)]),
  (29, [(.ireturn, 1)])]
def mX7_fault : ac_M := (yX7_fault, cX7_fault, 2, (some .int), 7, 0, 1, (0, 0), [], bX7_fault, [1397, 83, 1395, 1396], [])
def bX7_many : List (Nat × ac_I) := [(0, [(.aload 0, 1), (.getfield 224, 3), (.sipush (4), 1), (.iaload, 1), (.ireturn, 1)])]
def mX7_many : ac_M := (yX7_many, cX7_many, 1, (some .int), 7, 0, 0, (0, 0), [], bX7_many, [1409, 83, 1408, 38], [])
def bX7_all : List (Nat × ac_I) := [(0, [(.sipush (1), 1), (.aload 0, 1), (.multianewarray 159 23, 3), (.ishl, 1), (.sipush (1), 1), (.isub, 1), (.ireturn, 1)])]
def mX7_all : ac_M := (yX7_all, cX7_all, 1, (some .int), 7, 0, 0, (0, 0), [], bX7_all, [1486, 83, 1485, 52], [])
def bX7_isMember : List (Nat × ac_I) := [(0, [(.iload 1, 1), (.i2l, 1), (.ldc2_w 0, 1), (.aload 0, 1), (.multianewarray 159 23, 3), (.sipush (1), 1), (.isub, 1), (.i2l, 1), (.invokeinterface 140 3, 3), (.ireturn, 1)])]
def mX7_isMember : ac_M := (yX7_isMember, cX7_isMember, 2, (some .boolean), 7, 0, 1, (0, 0), [], bX7_isMember, [1405, 83, 1404, 37], [])
def bX7_isSet : List (Nat × ac_I) := [(0, [(.iload 1, 1), (.i2l, 1), (.ldc2_w 0, 1), (.aload 0, 1), (.multianewarray 160 23, 3), (.i2l, 1), (.invokeinterface 140 3, 3), (.ireturn, 1)])]
def mX7_isSet : ac_M := (yX7_isSet, cX7_isSet, 2, (some .boolean), 7, 0, 1, (0, 0), [], bX7_isSet, [1482, 83, 1481, 51], [])
def bX7_of : List (Nat × ac_I) := [(0, [(.aload 0, 1), (.getfield 224, 3), (.sipush (6), 2), (.sipush (4), 1), (.iload 1, 1), (.imul, 1), (.iadd, 1), (.iload 2, 1), (.iadd, 1), (.iaload, 1), (.ireturn, 1)])]
def mX7_of : ac_M := (yX7_of, cX7_of, 3, (some .int), 7, 0, 2, (0, 0), [], bX7_of, [1414, 83, 1413, 39], [])
def bX7_meets : List (Nat × ac_I) := [(0, [(.iload 1, 1), (.invokeinterface 142 1, 3), (.aload 0, 1), (.getfield 224, 3), (.sipush (1), 1), (.iaload, 1), (.if_icmp .ne 1, 3), (.sipush (1), 1), (.goto 2, 3)]),
  (17, [(.sipush (0), 1), (.goto 2, 0)]),
  (18, [(.ireturn, 1)])]
def mX7_meets : ac_M := (yX7_meets, cX7_meets, 2, (some .boolean), 7, 0, 1, (0, 0), [], bX7_meets, [1425, 83, 1424, 41], [])
def bX7_payOf : List (Nat × ac_I) := [(0, [(.iload 1, 1), (.iload 2, 1), (.invokeinterface 141 2, 3), (.ifCond .eq 3, 3), (.aload 0, 1), (.iload 1, 1), (.multianewarray 164 39, 3), (.ifCond .eq 1, 3), (.aload 0, 1), (.getfield 224, 3), (.sipush (2), 1), (.iaload, 1), (.goto 2, 3)]),
  (25, [(.sipush (0), 1), (.goto 2, 0)]),
  (26, [(.aload 0, 1), (.iload 2, 1), (.sipush (2), 1), (.multianewarray 163 55, 3), (.isub, 1), (.goto 4, 3)]),
  (36, [(.sipush (0), 1), (.goto 4, 0)]),
  (37, [(.ireturn, 1)])]
def mX7_payOf : ac_M := (yX7_payOf, cX7_payOf, 3, (some .int), 7, 0, 2, (0, 0), [], bX7_payOf, [1418, 83, 1417, 40], [])
def bX7_member : List (Nat × ac_I) := [(0, [(.aload 0, 1), (.sipush (0), 1), (.putfield 228, 3), (.aload 0, 1), (.iload 1, 1), (.multianewarray 161 39, 3), (.ifCond .ne 1, 3), (.aload 0, 1), (.sipush (1), 1), (.multianewarray 139 39, 3), (.ireturn, 1)]),
  (19, [(.iload 2, 1), (.i2l, 1), (.ldc2_w 0, 1), (.ldc2_w 6, 3), (.invokeinterface 140 3, 3), (.ifCond .ne 2, 3), (.aload 0, 1), (.sipush (2), 1), (.multianewarray 139 39, 3), (.ireturn, 1)]),
  (37, [(.iload 2, 1), (.sipush (4), 1), (.if_icmp .ge 3, 3), (.aload 0, 1), (.iload 1, 1), (.iload 2, 1), (.multianewarray 163 55, 3), (.ireturn, 1)]),
  (49, [(.sipush (0), 1), (.istore 3, 1), (.sipush (0), 1), (.istore 4, 2), (.goto 4, 0)]),
  (54, [(.iload 4, 2), (.aload 0, 1), (.getfield 224, 3), (.sipush (5), 1), (.iaload, 1), (.if_icmp .ge 9, 3), (.aload 0, 1), (.getfield 224, 3), (.sipush (54), 2), (.iload 4, 2), (.iadd, 1), (.iaload, 1), (.istore 5, 2), (.iload 3, 1), (.iload 2, 1), (.sipush (6), 2), (.if_icmp .ne 5, 3), (.aload 0, 1), (.iload 5, 2), (.iload 1, 1), (.multianewarray 165 55, 3), (.goto 8, 3)]),
  (94, [(.iload 5, 2), (.iload 1, 1), (.invokeinterface 141 2, 3), (.ifCond .eq 7, 3), (.iload 2, 1), (.sipush (4), 1), (.if_icmp .eq 6, 3), (.aload 0, 1), (.iload 5, 2), (.multianewarray 164 39, 3), (.ifCond .eq 7, 3), (.goto 6, 0)]),
  (117, [(.sipush (1), 1), (.goto 8, 3)]),
  (121, [(.sipush (0), 1), (.goto 8, 0)]),
  (122, [(.iadd, 1), (.istore 3, 1), (.iinc 4 (1), 3), (.goto 4, 3)]),
  (130, [(.iload 3, 1), (.ireturn, 1)])]
def mX7_member : ac_M := (yX7_member, cX7_member, 6, (some .int), 7, 0, 2, (0, 0), [], bX7_member, [1401, 83, 1399, 1400], [])
def bX7_quota : List (Nat × ac_I) := [(0, [(.aload 0, 1), (.sipush (0), 1), (.putfield 228, 3), (.iload 1, 1), (.i2l, 1), (.ldc2_w 1, 1), (.ldc2_w 12, 3), (.invokeinterface 140 3, 3), (.ifCond .ne 1, 3), (.aload 0, 1), (.sipush (1), 1), (.multianewarray 139 39, 3), (.ireturn, 1)]),
  (23, [(.aload 0, 1), (.getfield 224, 3), (.sipush (1), 1), (.iaload, 1), (.istore 2, 1), (.aload 0, 1), (.getfield 224, 3), (.sipush (1), 1), (.iload 1, 1), (.iastore, 1), (.iload 2, 1), (.ireturn, 1)])]
def mX7_quota : ac_M := (yX7_quota, cX7_quota, 3, (some .int), 7, 0, 1, (0, 0), [], bX7_quota, [1432, 83, 1430, 1431], [])
def bX7_lays : List (Nat × ac_I) := [(0, [(.aload 0, 1), (.aload 0, 1), (.getfield 224, 3), (.sipush (5), 1), (.iaload, 1), (.putfield 241, 3), (.sipush (0), 1), (.istore 1, 1), (.goto 1, 0)]),
  (12, [(.iload 1, 1), (.aload 0, 1), (.getfield 241, 3), (.if_icmp .ge 2, 3), (.aload 0, 1), (.getfield 240, 3), (.iload 1, 1), (.aload 0, 1), (.getfield 224, 3), (.sipush (54), 2), (.iload 1, 1), (.iadd, 1), (.iaload, 1), (.iastore, 1), (.iinc 1 (1), 3), (.goto 1, 3)]),
  (41, [(.return_, 1)])]
def mX7_lays : ac_M := (yX7_lays, cX7_lays, 2, none, 7, 0, 0, (0, 0), [], bX7_lays, [1441, 83, 1440, 42], [])
def bX7_goesOn : List (Nat × ac_I) := [(0, [(.aload 0, 1), (.aload 0, 1), (.getfield 241, 3), (.ifCond .ne 1, 3), (.sipush (0), 1), (.goto 2, 3)]),
  (12, [(.aload 0, 1), (.getfield 240, 3), (.aload 0, 1), (.getfield 241, 3), (.sipush (1), 1), (.isub, 1), (.iaload, 1), (.goto 2, 0)]),
  (23, [(.aload 0, 1), (.getfield 241, 3), (.sipush (0), 1), (.multianewarray 176 71, 3), (.istore 1, 1), (.aload 0, 1), (.getfield 240, 3), (.aload 0, 1), (.getfield 241, 3), (.iload 1, 1), (.iastore, 1), (.aload 0, 1), (.dup, 1), (.getfield 241, 3), (.sipush (1), 1), (.iadd, 1), (.putfield 241, 3), (.iload 1, 1), (.ireturn, 1)])]
def mX7_goesOn : ac_M := (yX7_goesOn, cX7_goesOn, 2, (some .int), 7, 0, 0, (0, 0), [], bX7_goesOn, [1510, 83, 1509, 54], [])
def ms5 : List ac_M := [mX7_isDigit, mX7_reads, mX7_blames, mX7_isWord, mX7_took, mX7_number, mX7_ruleTold, mX7_readMember, mX7_readLine, mX7_club, mX7_fault, mX7_many, mX7_all, mX7_isMember, mX7_isSet, mX7_of, mX7_meets, mX7_payOf, mX7_member, mX7_quota, mX7_lays, mX7_goesOn]
def bX7_learns : List (Nat × ac_I) := [(0, [(.sipush (0), 1), (.istore 2, 1), (.sipush (0), 1), (.istore 3, 1), (.goto 1, 0)]),
  (4, [(.iload 3, 1), (.aload 0, 1), (.getfield 241, 3), (.if_icmp .ge 2, 3), (.iload 2, 1), (.aload 0, 1), (.aload 0, 1), (.getfield 240, 3), (.iload 3, 1), (.iaload, 1), (.sipush (1), 1), (.iload 1, 1), (.ishl, 1), (.ior, 1), (.iload 1, 1), (.multianewarray 165 55, 3), (.iadd, 1), (.istore 2, 1), (.iinc 3 (1), 3), (.goto 1, 3)]),
  (36, [(.iload 2, 1), (.ifCond .le 3, 3), (.sipush (1), 1), (.goto 4, 3)]),
  (44, [(.sipush (0), 1), (.goto 4, 0)]),
  (45, [(.ireturn, 1)])]
def mX7_learns : ac_M := (yX7_learns, cX7_learns, 4, (some .boolean), 7, 0, 1, (0, 0), [], bX7_learns, [1470, 83, 1469, 49], [])
def bX7_last : List (Nat × ac_I) := [(0, [(.aload 0, 1), (.getfield 224, 3), (.sipush (5), 1), (.iaload, 1), (.ifCond .ne 1, 3), (.sipush (0), 1), (.goto 2, 3)]),
  (13, [(.aload 0, 1), (.getfield 224, 3), (.sipush (54), 2), (.aload 0, 1), (.getfield 224, 3), (.sipush (5), 1), (.iaload, 1), (.iadd, 1), (.sipush (1), 1), (.isub, 1), (.iaload, 1), (.goto 2, 0)]),
  (29, [(.ireturn, 1)])]
def mX7_last : ac_M := (yX7_last, cX7_last, 1, (some .int), 7, 0, 0, (0, 0), [], bX7_last, [1445, 83, 1444, 43], [])
def bX7_thoughts : List (Nat × ac_I) := [(0, [(.iload 1, 1), (.istore 3, 1), (.sipush (0), 1), (.istore 4, 2), (.goto 1, 0)]),
  (5, [(.iload 4, 2), (.iload 2, 1), (.if_icmp .ge 6, 3), (.sipush (0), 1), (.istore 5, 2), (.sipush (0), 1), (.istore 6, 2), (.goto 2, 0)]),
  (17, [(.iload 6, 2), (.aload 0, 1), (.multianewarray 159 23, 3), (.if_icmp .ge 5, 3), (.iload 5, 2), (.iload 3, 1), (.sipush (1), 1), (.iload 6, 2), (.ishl, 1), (.sipush (-1), 1), (.ixor, 1), (.iand, 1), (.invokeinterface 142 1, 3), (.sipush (1), 1), (.iadd, 1), (.aload 0, 1), (.getfield 224, 3), (.sipush (1), 1), (.iaload, 1), (.if_icmp .ne 3, 3), (.aload 0, 1), (.getfield 224, 3), (.sipush (2), 1), (.iaload, 1), (.aload 0, 1), (.iload 6, 2), (.sipush (2), 1), (.multianewarray 163 55, 3), (.if_icmp .le 3, 3), (.sipush (1), 1), (.iload 6, 2), (.ishl, 1), (.goto 4, 3)]),
  (73, [(.sipush (0), 1), (.goto 4, 0)]),
  (74, [(.ior, 1), (.istore 5, 2), (.iinc 6 (1), 3), (.goto 2, 3)]),
  (83, [(.iload 5, 2), (.istore 3, 1), (.iinc 4 (1), 3), (.goto 1, 3)]),
  (92, [(.iload 3, 1), (.ireturn, 1)])]
def mX7_thoughts : ac_M := (yX7_thoughts, cX7_thoughts, 7, (some .int), 7, 0, 2, (0, 0), [], bX7_thoughts, [1466, 83, 1465, 48], [])
def bX7_draw : List (Nat × ac_I) := [(0, [(.aload 0, 1), (.sipush (1103515245), 2), (.aload 0, 1), (.getfield 242, 3), (.imul, 1), (.sipush (12345), 3), (.iadd, 1), (.putfield 242, 3), (.aload 0, 1), (.getfield 242, 3), (.sipush (16), 2), (.iushr, 1), (.iload 1, 1), (.irem, 1), (.ireturn, 1)])]
def mX7_draw : ac_M := (yX7_draw, cX7_draw, 2, (some .int), 7, 0, 1, (0, 0), [], bX7_draw, [1461, 83, 1460, 47], [])
def bX7_seen : List (Nat × ac_I) := [(0, [(.sipush (0), 1), (.istore 4, 2), (.sipush (0), 1), (.istore 5, 2), (.goto 1, 0)]),
  (6, [(.iload 5, 2), (.iload 1, 1), (.if_icmp .ge 7, 3), (.iload 2, 1), (.iload 5, 2), (.invokeinterface 141 2, 3), (.ifCond .ne 2, 3), (.aload 0, 1), (.iload 5, 2), (.sipush (3), 1), (.multianewarray 163 55, 3), (.sipush (1), 1), (.if_icmp .ne 3, 3), (.goto 2, 0)]),
  (32, [(.sipush (1), 1), (.goto 4, 3)]),
  (36, [(.sipush (0), 1), (.goto 4, 0)]),
  (37, [(.istore 6, 2), (.iload 6, 2), (.ifCond .eq 6, 3), (.iload 3, 1), (.ifCond .eq 5, 3), (.aload 0, 1), (.sipush (100), 2), (.multianewarray 173 39, 3), (.aload 0, 1), (.getfield 224, 3), (.sipush (3), 1), (.iaload, 1), (.if_icmp .lt 6, 3), (.goto 5, 0)]),
  (63, [(.iinc 4 (1), 3), (.goto 6, 0)]),
  (66, [(.iinc 5 (1), 3), (.goto 1, 3)]),
  (72, [(.iload 4, 2), (.ireturn, 1)])]
def mX7_seen : ac_M := (yX7_seen, cX7_seen, 7, (some .int), 7, 0, 3, (0, 0), [], bX7_seen, [1457, 83, 1456, 46], [])
def bX7_comes : List (Nat × ac_I) := [(0, [(.aload 0, 1), (.iload 1, 1), (.sipush (1), 1), (.multianewarray 163 55, 3), (.istore 6, 2), (.aload 0, 1), (.iload 1, 1), (.sipush (0), 1), (.multianewarray 163 55, 3), (.tableswitch 23 0 9 #[1, 2, 3, 4, 7, 10, 13, 16, 19, 22], 54)]),
  (68, [(.sipush (1), 1), (.ireturn, 1)]),
  (70, [(.sipush (0), 1), (.ireturn, 1)]),
  (72, [(.iload 3, 1), (.iload 1, 1), (.invokeinterface 141 2, 3), (.ireturn, 1)]),
  (78, [(.iload 3, 1), (.iload 1, 1), (.invokeinterface 141 2, 3), (.ifCond .ne 5, 3), (.sipush (1), 1), (.goto 6, 3)]),
  (90, [(.sipush (0), 1), (.goto 6, 0)]),
  (91, [(.ireturn, 1)]),
  (92, [(.iload 3, 1), (.invokeinterface 142 1, 3), (.iload 6, 2), (.if_icmp .ge 8, 3), (.sipush (1), 1), (.goto 9, 3)]),
  (105, [(.sipush (0), 1), (.goto 9, 0)]),
  (106, [(.ireturn, 1)]),
  (107, [(.iload 3, 1), (.invokeinterface 142 1, 3), (.iload 6, 2), (.if_icmp .le 11, 3), (.sipush (1), 1), (.goto 12, 3)]),
  (120, [(.sipush (0), 1), (.goto 12, 0)]),
  (121, [(.ireturn, 1)]),
  (122, [(.iload 4, 2), (.iload 6, 2), (.irem, 1), (.ifCond .ne 14, 3), (.sipush (1), 1), (.goto 15, 3)]),
  (134, [(.sipush (0), 1), (.goto 15, 0)]),
  (135, [(.ireturn, 1)]),
  (136, [(.aload 0, 1), (.iload 1, 1), (.iload 2, 1), (.iload 5, 2), (.multianewarray 174 71, 3), (.iload 6, 2), (.if_icmp .ge 17, 3), (.sipush (1), 1), (.goto 18, 3)]),
  (153, [(.sipush (0), 1), (.goto 18, 0)]),
  (154, [(.ireturn, 1)]),
  (155, [(.aload 0, 1), (.iload 1, 1), (.iload 2, 1), (.iload 5, 2), (.multianewarray 174 71, 3), (.iload 6, 2), (.if_icmp .ne 20, 3), (.sipush (1), 1), (.goto 21, 3)]),
  (172, [(.sipush (0), 1), (.goto 21, 0)]),
  (173, [(.ireturn, 1)]),
  (174, [(.aload 0, 1), (.iload 3, 1), (.iload 6, 2), (.multianewarray 172 55, 3), (.iload 1, 1), (.invokeinterface 141 2, 3), (.ireturn, 1)]),
  (186, [(.aload 0, 1), (.iload 1, 1), (.multianewarray 170 39, 3), (.ireturn, 1)])]
def mX7_comes : ac_M := (yX7_comes, cX7_comes, 7, (some .boolean), 7, 0, 5, (0, 0), [], bX7_comes, [1453, 83, 1452, 45], [])
def bX7_goes : List (Nat × ac_I) := [(0, [(.sipush (0), 1), (.istore 4, 2), (.sipush (0), 1), (.istore 5, 2), (.goto 1, 0)]),
  (6, [(.iload 5, 2), (.aload 0, 1), (.multianewarray 159 23, 3), (.if_icmp .ge 4, 3), (.iload 4, 2), (.aload 0, 1), (.iload 5, 2), (.iload 4, 2), (.iload 1, 1), (.iload 2, 1), (.iload 3, 1), (.multianewarray 175 103, 3), (.ifCond .eq 2, 3), (.sipush (1), 1), (.iload 5, 2), (.ishl, 1), (.goto 3, 3)]),
  (38, [(.sipush (0), 1), (.goto 3, 0)]),
  (39, [(.ior, 1), (.istore 4, 2), (.iinc 5 (1), 3), (.goto 1, 3)]),
  (48, [(.iload 4, 2), (.ireturn, 1)])]
def mX7_goes : ac_M := (yX7_goes, cX7_goes, 6, (some .int), 7, 0, 3, (0, 0), [], bX7_goes, [1449, 83, 1448, 44], [])
def bX7_goesBy : List (Nat × ac_I) := [(0, [(.aload 0, 1), (.getfield 224, 3), (.sipush (54), 2), (.aload 0, 1), (.getfield 224, 3), (.sipush (5), 1), (.iaload, 1), (.iadd, 1), (.iload 1, 1), (.iastore, 1), (.aload 0, 1), (.getfield 224, 3), (.sipush (5), 1), (.dup2, 1), (.iaload, 1), (.sipush (1), 1), (.iadd, 1), (.iastore, 1), (.return_, 1)])]
def mX7_goesBy : ac_M := (yX7_goesBy, cX7_goesBy, 2, none, 7, 0, 1, (0, 0), [], bX7_goesBy, [1474, 83, 1473, 50], [])
def bX7_week : List (Nat × ac_I) := [(0, [(.aload 0, 1), (.aload 0, 1), (.getfield 224, 3), (.sipush (5), 1), (.iaload, 1), (.sipush (60), 2), (.if_icmp .ge 1, 3), (.sipush (0), 1), (.goto 2, 3)]),
  (16, [(.sipush (1), 1), (.goto 2, 0)]),
  (17, [(.putfield 228, 3), (.aload 0, 1), (.getfield 228, 3), (.ifCond .le 3, 3), (.sipush (0), 1), (.ireturn, 1)]),
  (29, [(.aload 0, 1), (.iload 1, 1), (.putfield 242, 3), (.aload 0, 1), (.multianewarray 168 23, 3), (.aload 0, 1), (.aload 0, 1), (.multianewarray 171 23, 3), (.aload 0, 1), (.getfield 224, 3), (.sipush (5), 1), (.iaload, 1), (.sipush (1), 1), (.multianewarray 176 71, 3), (.istore 2, 1), (.aload 0, 1), (.iload 2, 1), (.multianewarray 177 39, 3), (.iload 2, 1), (.ireturn, 1)])]
def mX7_week : ac_M := (yX7_week, cX7_week, 3, (some .int), 7, 0, 1, (0, 0), [], bX7_week, [1437, 83, 1435, 1436], [])
def bX7_told : List (Nat × ac_I) := [(0, [(.aload 0, 1), (.aload 0, 1), (.getfield 224, 3), (.sipush (5), 1), (.iaload, 1), (.sipush (60), 2), (.if_icmp .ne 1, 3), (.sipush (1), 1), (.goto 3, 3)]),
  (16, [(.aload 0, 1), (.iload 1, 1), (.multianewarray 162 39, 3), (.ifCond .eq 2, 3), (.sipush (0), 1), (.goto 3, 3)]),
  (28, [(.sipush (2), 1), (.goto 3, 0)]),
  (29, [(.putfield 228, 3), (.aload 0, 1), (.getfield 228, 3), (.ifCond .le 4, 3), (.sipush (0), 1), (.ireturn, 1)]),
  (41, [(.aload 0, 1), (.iload 1, 1), (.multianewarray 177 39, 3), (.aload 0, 1), (.iload 1, 1), (.multianewarray 164 39, 3), (.ireturn, 1)])]
def mX7_told : ac_M := (yX7_told, cX7_told, 2, (some .boolean), 7, 0, 1, (0, 0), [], bX7_told, [1478, 83, 1476, 1477], [])
def bX7_back : List (Nat × ac_I) := [(0, [(.aload 0, 1), (.sipush (0), 1), (.putfield 228, 3), (.iload 1, 1), (.i2l, 1), (.ldc2_w 0, 1), (.aload 0, 1), (.getfield 224, 3), (.sipush (5), 1), (.iaload, 1), (.i2l, 1), (.invokeinterface 140 3, 3), (.ifCond .ne 1, 3), (.aload 0, 1), (.sipush (1), 1), (.multianewarray 139 39, 3), (.ireturn, 1)]),
  (27, [(.sipush (0), 1), (.istore 2, 1), (.goto 2, 0)]),
  (29, [(.iload 2, 1), (.iload 1, 1), (.if_icmp .ge 3, 3), (.aload 0, 1), (.getfield 224, 3), (.sipush (5), 1), (.dup2, 1), (.iaload, 1), (.sipush (1), 1), (.isub, 1), (.iastore, 1), (.aload 0, 1), (.getfield 224, 3), (.sipush (54), 2), (.aload 0, 1), (.getfield 224, 3), (.sipush (5), 1), (.iaload, 1), (.iadd, 1), (.sipush (0), 1), (.iastore, 1), (.iinc 2 (1), 3), (.goto 2, 3)]),
  (65, [(.aload 0, 1), (.getfield 224, 3), (.sipush (5), 1), (.iaload, 1), (.ireturn, 1)])]
def mX7_back : ac_M := (yX7_back, cX7_back, 3, (some .int), 7, 0, 1, (0, 0), [], bX7_back, [1490, 83, 1488, 1489], [])
def bX7_isWeek : List (Nat × ac_I) := [(0, [(.iload 1, 1), (.i2l, 1), (.ldc2_w 0, 1), (.aload 0, 1), (.getfield 224, 3), (.sipush (5), 1), (.iaload, 1), (.sipush (1), 1), (.isub, 1), (.i2l, 1), (.invokeinterface 140 3, 3), (.ireturn, 1)])]
def mX7_isWeek : ac_M := (yX7_isWeek, cX7_isWeek, 2, (some .boolean), 7, 0, 1, (0, 0), [], bX7_isWeek, [1498, 83, 1497, 53], [])
def bX7_came : List (Nat × ac_I) := [(0, [(.aload 0, 1), (.sipush (0), 1), (.putfield 228, 3), (.aload 0, 1), (.iload 1, 1), (.multianewarray 181 39, 3), (.ifCond .eq 1, 3), (.aload 0, 1), (.getfield 224, 3), (.sipush (54), 2), (.iload 1, 1), (.iadd, 1), (.iaload, 1), (.goto 2, 3)]),
  (25, [(.aload 0, 1), (.sipush (1), 1), (.multianewarray 139 39, 3), (.goto 2, 0)]),
  (30, [(.ireturn, 1)])]
def mX7_came : ac_M := (yX7_came, cX7_came, 2, (some .int), 7, 0, 1, (0, 0), [], bX7_came, [1494, 83, 1492, 1493], [])
def bX7_met : List (Nat × ac_I) := [(0, [(.aload 0, 1), (.aload 0, 1), (.iload 1, 1), (.multianewarray 181 39, 3), (.ifCond .eq 1, 3), (.sipush (0), 1), (.goto 2, 3)]),
  (13, [(.sipush (1), 1), (.goto 2, 0)]),
  (14, [(.putfield 228, 3), (.aload 0, 1), (.getfield 228, 3), (.ifCond .ne 3, 3), (.aload 0, 1), (.aload 0, 1), (.getfield 224, 3), (.sipush (54), 2), (.iload 1, 1), (.iadd, 1), (.iaload, 1), (.multianewarray 164 39, 3), (.ifCond .eq 3, 3), (.sipush (1), 1), (.goto 4, 3)]),
  (44, [(.sipush (0), 1), (.goto 4, 0)]),
  (45, [(.ireturn, 1)])]
def mX7_met : ac_M := (yX7_met, cX7_met, 2, (some .boolean), 7, 0, 1, (0, 0), [], bX7_met, [1502, 83, 1500, 1501], [])
def bX7_next : List (Nat × ac_I) := [(0, [(.aload 0, 1), (.sipush (0), 1), (.putfield 228, 3), (.aload 0, 1), (.multianewarray 168 23, 3), (.aload 0, 1), (.multianewarray 169 23, 3), (.ireturn, 1)])]
def mX7_next : ac_M := (yX7_next, cX7_next, 1, (some .int), 7, 0, 0, (0, 0), [], bX7_next, [1506, 83, 1504, 1505], [])
def bX7_hats : List (Nat × ac_I) := [(0, [(.aload 0, 1), (.sipush (0), 1), (.putfield 228, 3), (.aload 0, 1), (.multianewarray 168 23, 3), (.aload 0, 1), (.iload 1, 1), (.multianewarray 161 39, 3), (.ifCond .eq 1, 3), (.aload 0, 1), (.iload 1, 1), (.aload 0, 1), (.multianewarray 169 23, 3), (.sipush (0), 1), (.multianewarray 174 71, 3), (.goto 2, 3)]),
  (30, [(.aload 0, 1), (.sipush (1), 1), (.multianewarray 139 39, 3), (.goto 2, 0)]),
  (35, [(.ireturn, 1)])]
def mX7_hats : ac_M := (yX7_hats, cX7_hats, 2, (some .int), 7, 0, 1, (0, 0), [], bX7_hats, [1514, 83, 1512, 1513], [])
def bX7_thought : List (Nat × ac_I) := [(0, [(.aload 0, 1), (.aload 0, 1), (.iload 1, 1), (.multianewarray 161 39, 3), (.ifCond .ne 1, 3), (.sipush (1), 1), (.goto 3, 3)]),
  (13, [(.iload 2, 1), (.i2l, 1), (.ldc2_w 0, 1), (.ldc2_w 6, 3), (.invokeinterface 140 3, 3), (.ifCond .eq 2, 3), (.sipush (0), 1), (.goto 3, 3)]),
  (29, [(.sipush (2), 1), (.goto 3, 0)]),
  (30, [(.putfield 228, 3), (.aload 0, 1), (.getfield 228, 3), (.ifCond .ne 4, 3), (.aload 0, 1), (.aload 0, 1), (.multianewarray 171 23, 3), (.iload 2, 1), (.multianewarray 172 55, 3), (.iload 1, 1), (.invokeinterface 141 2, 3), (.ifCond .eq 4, 3), (.sipush (1), 1), (.goto 5, 3)]),
  (60, [(.sipush (0), 1), (.goto 5, 0)]),
  (61, [(.ireturn, 1)])]
def mX7_thought : ac_M := (yX7_thought, cX7_thought, 3, (some .boolean), 7, 0, 2, (0, 0), [], bX7_thought, [1518, 83, 1516, 1517], [])
def bX7_settled : List (Nat × ac_I) := [(0, [(.aload 0, 1), (.sipush (0), 1), (.putfield 228, 3), (.sipush (6), 2), (.istore 1, 1), (.goto 1, 0)]),
  (8, [(.iload 1, 1), (.ifCond .le 2, 3), (.aload 0, 1), (.aload 0, 1), (.multianewarray 171 23, 3), (.iload 1, 1), (.sipush (1), 1), (.isub, 1), (.multianewarray 172 55, 3), (.aload 0, 1), (.aload 0, 1), (.multianewarray 171 23, 3), (.sipush (6), 2), (.multianewarray 172 55, 3), (.if_icmp .ne 2, 3), (.iinc 1 (-1), 3), (.goto 1, 3)]),
  (42, [(.iload 1, 1), (.sipush (6), 2), (.if_icmp .ne 3, 3), (.sipush (-1), 1), (.goto 4, 3)]),
  (52, [(.iload 1, 1), (.goto 4, 0)]),
  (53, [(.ireturn, 1)])]
def mX7_settled : ac_M := (yX7_settled, cX7_settled, 2, (some .int), 7, 0, 0, (0, 0), [], bX7_settled, [1522, 83, 1520, 1521], [])
def bX7_trayFault : List (Nat × ac_I) := [(0, [(.iload 1, 1), (.invokeinterface 241 1, 3), (.ifCond .ne 1, 3), (.sipush (1), 1), (.goto 3, 3)]),
  (11, [(.aload 0, 1), (.getfield 249, 3), (.iload 1, 1), (.iaload, 1), (.sipush (-1), 1), (.if_icmp .ne 2, 3), (.sipush (2), 1), (.goto 3, 3)]),
  (25, [(.sipush (0), 1), (.goto 3, 0)]),
  (26, [(.ireturn, 1)])]
def mX7_trayFault : ac_M := (yX7_trayFault, cX7_trayFault, 2, (some .int), 7, 0, 1, (0, 0), [], bX7_trayFault, [1530, 83, 1529, 55], [])
def bX7_judge : List (Nat × ac_I) := [(0, [(.aload 0, 1), (.aload 0, 1), (.iload 1, 1), (.multianewarray 188 39, 3), (.putfield 228, 3), (.aload 0, 1), (.getfield 228, 3), (.ifCond .ne 1, 3), (.iload 2, 1), (.i2l, 1), (.ldc2_w 0, 1), (.ldc2_w 1, 1), (.invokeinterface 140 3, 3), (.ifCond .ne 1, 3), (.aload 0, 1), (.sipush (3), 1), (.putfield 228, 3), (.goto 1, 0)]),
  (31, [(.aload 0, 1), (.getfield 228, 3), (.ifCond .le 2, 3), (.sipush (0), 1), (.ireturn, 1)]),
  (40, [(.aload 0, 1), (.multianewarray 168 23, 3), (.sipush (0), 1), (.istore 3, 1), (.goto 3, 0)]),
  (46, [(.iload 3, 1), (.aload 0, 1), (.getfield 250, 3), (.iload 1, 1), (.iaload, 1), (.if_icmp .ge 7, 3), (.aload 0, 1), (.multianewarray 169 23, 3), (.istore 4, 2), (.aload 0, 1), (.getfield 251, 3), (.sipush (60), 2), (.iload 1, 1), (.imul, 1), (.iload 3, 1), (.iadd, 1), (.laload, 1), (.iload 4, 2), (.i2l, 1), (.lcmp, 1), (.ifCond .eq 6, 3), (.iload 2, 1), (.ifCond .ne 4, 3), (.iload 3, 1), (.goto 5, 3)]),
  (88, [(.iload 4, 2), (.goto 5, 0)]),
  (90, [(.ireturn, 1)]),
  (91, [(.iinc 3 (1), 3), (.goto 3, 3)]),
  (97, [(.sipush (-1), 1), (.ireturn, 1)])]
def mX7_judge : ac_M := (yX7_judge, cX7_judge, 5, (some .int), 7, 0, 2, (0, 0), [], bX7_judge, [1526, 83, 1524, 1525], [])
def bX7_gainOf : List (Nat × ac_I) := [(0, [(.aload 0, 1), (.iload 1, 1), (.sipush (1), 1), (.iload 2, 1), (.ishl, 1), (.ixor, 1), (.iload 2, 1), (.multianewarray 165 55, 3), (.aload 0, 1), (.iload 1, 1), (.iload 2, 1), (.multianewarray 165 55, 3), (.isub, 1), (.ireturn, 1)])]
def mX7_gainOf : ac_M := (yX7_gainOf, cX7_gainOf, 3, (some .int), 7, 0, 2, (0, 0), [], bX7_gainOf, [1542, 83, 1541, 56], [])
def bX7_firstToGain : List (Nat × ac_I) := [(0, [(.sipush (0), 1), (.istore 2, 1), (.goto 1, 0)]),
  (2, [(.iload 2, 1), (.aload 0, 1), (.multianewarray 159 23, 3), (.if_icmp .ge 3, 3), (.aload 0, 1), (.iload 1, 1), (.iload 2, 1), (.multianewarray 190 55, 3), (.ifCond .le 2, 3), (.iload 2, 1), (.ireturn, 1)]),
  (21, [(.iinc 2 (1), 3), (.goto 1, 3)]),
  (27, [(.sipush (-1), 1), (.ireturn, 1)])]
def mX7_firstToGain : ac_M := (yX7_firstToGain, cX7_firstToGain, 3, (some .int), 7, 0, 1, (0, 0), [], bX7_firstToGain, [1550, 83, 1549, 57], [])
def bX7_payAll : List (Nat × ac_I) := [(0, [(.sipush (0), 1), (.istore 2, 1), (.sipush (0), 1), (.istore 3, 1), (.goto 1, 0)]),
  (4, [(.iload 3, 1), (.aload 0, 1), (.multianewarray 159 23, 3), (.if_icmp .ge 2, 3), (.iload 2, 1), (.aload 0, 1), (.iload 1, 1), (.iload 3, 1), (.multianewarray 165 55, 3), (.iadd, 1), (.istore 2, 1), (.iinc 3 (1), 3), (.goto 1, 3)]),
  (27, [(.iload 2, 1), (.ireturn, 1)])]
def mX7_payAll : ac_M := (yX7_payAll, cX7_payAll, 4, (some .int), 7, 0, 1, (0, 0), [], bX7_payAll, [1603, 83, 1602, 63], [])
def bX7_gain : List (Nat × ac_I) := [(0, [(.aload 0, 1), (.aload 0, 1), (.iload 2, 1), (.multianewarray 161 39, 3), (.ifCond .ne 1, 3), (.sipush (1), 1), (.goto 3, 3)]),
  (13, [(.aload 0, 1), (.iload 1, 1), (.multianewarray 162 39, 3), (.ifCond .eq 2, 3), (.sipush (0), 1), (.goto 3, 3)]),
  (25, [(.sipush (2), 1), (.goto 3, 0)]),
  (26, [(.putfield 228, 3), (.aload 0, 1), (.getfield 228, 3), (.ifCond .le 4, 3), (.sipush (0), 1), (.goto 5, 3)]),
  (40, [(.aload 0, 1), (.iload 1, 1), (.iload 2, 1), (.multianewarray 190 55, 3), (.goto 5, 0)]),
  (46, [(.ireturn, 1)])]
def mX7_gain : ac_M := (yX7_gain, cX7_gain, 3, (some .int), 7, 0, 2, (0, 0), [], bX7_gain, [1538, 83, 1536, 1537], [])
def bX7_rests : List (Nat × ac_I) := [(0, [(.aload 0, 1), (.aload 0, 1), (.iload 1, 1), (.multianewarray 162 39, 3), (.ifCond .eq 1, 3), (.sipush (0), 1), (.goto 2, 3)]),
  (13, [(.sipush (1), 1), (.goto 2, 0)]),
  (14, [(.putfield 228, 3), (.aload 0, 1), (.getfield 228, 3), (.ifCond .ne 3, 3), (.aload 0, 1), (.iload 1, 1), (.multianewarray 191 39, 3), (.sipush (-1), 1), (.if_icmp .ne 3, 3), (.sipush (1), 1), (.goto 4, 3)]),
  (37, [(.sipush (0), 1), (.goto 4, 0)]),
  (38, [(.ireturn, 1)])]
def mX7_rests : ac_M := (yX7_rests, cX7_rests, 2, (some .boolean), 7, 0, 1, (0, 0), [], bX7_rests, [1546, 83, 1544, 1545], [])
def bX7_rest : List (Nat × ac_I) := [(0, [(.aload 0, 1), (.sipush (0), 1), (.putfield 228, 3), (.sipush (0), 1), (.istore 2, 1), (.sipush (0), 1), (.istore 3, 1), (.goto 1, 0)]),
  (9, [(.iload 3, 1), (.aload 0, 1), (.multianewarray 160 23, 3), (.if_icmp .gt 5, 3), (.aload 0, 1), (.iload 3, 1), (.multianewarray 191 39, 3), (.sipush (-1), 1), (.if_icmp .eq 2, 3), (.goto 4, 3)]),
  (29, [(.iload 2, 1), (.iload 1, 1), (.if_icmp .ne 3, 3), (.iload 3, 1), (.ireturn, 1)]),
  (36, [(.iinc 2 (1), 3), (.goto 4, 0)]),
  (39, [(.iinc 3 (1), 3), (.goto 1, 3)]),
  (45, [(.iload 1, 1), (.sipush (-1), 1), (.if_icmp .ne 6, 3), (.iload 2, 1), (.goto 7, 3)]),
  (54, [(.sipush (-1), 1), (.goto 7, 0)]),
  (55, [(.ireturn, 1)])]
def mX7_rest : ac_M := (yX7_rest, cX7_rest, 4, (some .int), 7, 0, 1, (0, 0), [], bX7_rest, [1554, 83, 1552, 1553], [])
def bX7_isStrong : List (Nat × ac_I) := [(0, [(.aload 0, 1), (.iload 1, 1), (.multianewarray 191 39, 3), (.sipush (-1), 1), (.if_icmp .eq 1, 3), (.sipush (0), 1), (.ireturn, 1)]),
  (11, [(.sipush (0), 1), (.istore 2, 1), (.goto 2, 0)]),
  (13, [(.iload 2, 1), (.aload 0, 1), (.multianewarray 159 23, 3), (.if_icmp .ge 6, 3), (.iload 2, 1), (.sipush (1), 1), (.iadd, 1), (.istore 3, 1), (.goto 3, 0)]),
  (25, [(.iload 3, 1), (.aload 0, 1), (.multianewarray 159 23, 3), (.if_icmp .ge 5, 3), (.iload 1, 1), (.sipush (1), 1), (.iload 2, 1), (.ishl, 1), (.ixor, 1), (.sipush (1), 1), (.iload 3, 1), (.ishl, 1), (.ixor, 1), (.istore 4, 2), (.aload 0, 1), (.iload 4, 2), (.iload 2, 1), (.multianewarray 165 55, 3), (.aload 0, 1), (.iload 1, 1), (.iload 2, 1), (.multianewarray 165 55, 3), (.if_icmp .le 4, 3), (.aload 0, 1), (.iload 4, 2), (.iload 3, 1), (.multianewarray 165 55, 3), (.aload 0, 1), (.iload 1, 1), (.iload 3, 1), (.multianewarray 165 55, 3), (.if_icmp .le 4, 3), (.sipush (0), 1), (.ireturn, 1)]),
  (78, [(.iinc 3 (1), 3), (.goto 3, 3)]),
  (84, [(.iinc 2 (1), 3), (.goto 2, 3)]),
  (90, [(.sipush (1), 1), (.ireturn, 1)])]
def mX7_isStrong : ac_M := (yX7_isStrong, cX7_isStrong, 5, (some .boolean), 7, 0, 1, (0, 0), [], bX7_isStrong, [1562, 83, 1561, 58], [])
def bX7_strong : List (Nat × ac_I) := [(0, [(.aload 0, 1), (.aload 0, 1), (.iload 1, 1), (.multianewarray 162 39, 3), (.ifCond .eq 1, 3), (.sipush (0), 1), (.goto 2, 3)]),
  (13, [(.sipush (1), 1), (.goto 2, 0)]),
  (14, [(.putfield 228, 3), (.aload 0, 1), (.getfield 228, 3), (.ifCond .ne 3, 3), (.aload 0, 1), (.iload 1, 1), (.multianewarray 196 39, 3), (.ifCond .eq 3, 3), (.sipush (1), 1), (.goto 4, 3)]),
  (36, [(.sipush (0), 1), (.goto 4, 0)]),
  (37, [(.ireturn, 1)])]
def mX7_strong : ac_M := (yX7_strong, cX7_strong, 2, (some .boolean), 7, 0, 1, (0, 0), [], bX7_strong, [1558, 83, 1556, 1557], [])
def ms6 : List ac_M := [mX7_learns, mX7_last, mX7_thoughts, mX7_draw, mX7_seen, mX7_comes, mX7_goes, mX7_goesBy, mX7_week, mX7_told, mX7_back, mX7_isWeek, mX7_came, mX7_met, mX7_next, mX7_hats, mX7_thought, mX7_settled, mX7_trayFault, mX7_judge, mX7_gainOf, mX7_firstToGain, mX7_payAll, mX7_gain, mX7_rests, mX7_rest, mX7_isStrong, mX7_strong]
def bX7_strongs : List (Nat × ac_I) := [(0, [(.aload 0, 1), (.sipush (0), 1), (.putfield 228, 3), (.sipush (0), 1), (.istore 2, 1), (.sipush (0), 1), (.istore 3, 1), (.goto 1, 0)]),
  (9, [(.iload 3, 1), (.aload 0, 1), (.multianewarray 160 23, 3), (.if_icmp .gt 5, 3), (.aload 0, 1), (.iload 3, 1), (.multianewarray 196 39, 3), (.ifCond .ne 2, 3), (.goto 4, 3)]),
  (28, [(.iload 2, 1), (.iload 1, 1), (.if_icmp .ne 3, 3), (.iload 3, 1), (.ireturn, 1)]),
  (35, [(.iinc 2 (1), 3), (.goto 4, 0)]),
  (38, [(.iinc 3 (1), 3), (.goto 1, 3)]),
  (44, [(.iload 1, 1), (.sipush (-1), 1), (.if_icmp .ne 6, 3), (.iload 2, 1), (.goto 7, 3)]),
  (53, [(.sipush (-1), 1), (.goto 7, 0)]),
  (54, [(.ireturn, 1)])]
def mX7_strongs : ac_M := (yX7_strongs, cX7_strongs, 4, (some .int), 7, 0, 1, (0, 0), [], bX7_strongs, [1566, 83, 1564, 1565], [])
def bX7_wants : List (Nat × ac_I) := [(0, [(.aload 0, 1), (.getfield 244, 3), (.sipush (14), 2), (.iload 1, 1), (.sipush (1), 1), (.iadd, 1), (.imul, 1), (.iload 2, 1), (.iadd, 1), (.sipush (1), 1), (.iadd, 1), (.iaload, 1), (.aload 0, 1), (.getfield 224, 3), (.sipush (1), 1), (.iaload, 1), (.if_icmp .ne 1, 3), (.aload 0, 1), (.getfield 224, 3), (.sipush (2), 1), (.iaload, 1), (.aload 0, 1), (.aload 0, 1), (.getfield 243, 3), (.iload 1, 1), (.iaload, 1), (.sipush (2), 1), (.multianewarray 163 55, 3), (.if_icmp .le 1, 3), (.sipush (1), 1), (.goto 2, 3)]),
  (48, [(.sipush (0), 1), (.goto 2, 0)]),
  (49, [(.ireturn, 1)])]
def mX7_wants : ac_M := (yX7_wants, cX7_wants, 3, (some .boolean), 7, 0, 2, (0, 0), [], bX7_wants, [1578, 83, 1577, 60], [])
def bX7_byTurns : List (Nat × ac_I) := [(0, [(.aload 0, 1), (.multianewarray 159 23, 3), (.istore 1, 1), (.sipush (0), 1), (.istore 2, 1), (.goto 1, 0)]),
  (7, [(.iload 2, 1), (.iload 1, 1), (.if_icmp .gt 2, 3), (.aload 0, 1), (.getfield 244, 3), (.sipush (14), 2), (.iload 1, 1), (.imul, 1), (.iload 2, 1), (.iadd, 1), (.iload 2, 1), (.iastore, 1), (.iinc 2 (1), 3), (.goto 1, 3)]),
  (30, [(.iload 1, 1), (.sipush (1), 1), (.isub, 1), (.istore 2, 1), (.goto 3, 0)]),
  (34, [(.iload 2, 1), (.ifCond .lt 8, 3), (.sipush (0), 1), (.istore 3, 1), (.goto 4, 0)]),
  (40, [(.iload 3, 1), (.iload 2, 1), (.if_icmp .gt 7, 3), (.aload 0, 1), (.getfield 244, 3), (.sipush (14), 2), (.iload 2, 1), (.imul, 1), (.iload 3, 1), (.iadd, 1), (.aload 0, 1), (.getfield 244, 3), (.sipush (14), 2), (.iload 2, 1), (.sipush (1), 1), (.iadd, 1), (.imul, 1), (.aload 0, 1), (.iload 2, 1), (.iload 3, 1), (.multianewarray 199 55, 3), (.ifCond .eq 5, 3), (.iload 3, 1), (.sipush (1), 1), (.iadd, 1), (.goto 6, 3)]),
  (80, [(.iload 3, 1), (.goto 6, 0)]),
  (81, [(.iadd, 1), (.iaload, 1), (.iastore, 1), (.iinc 3 (1), 3), (.goto 4, 3)]),
  (90, [(.iinc 2 (-1), 3), (.goto 3, 3)]),
  (96, [(.sipush (0), 1), (.istore 2, 1), (.sipush (0), 1), (.istore 3, 1), (.goto 9, 0)]),
  (100, [(.iload 3, 1), (.iload 1, 1), (.if_icmp .ge 12, 3), (.iload 2, 1), (.aload 0, 1), (.iload 3, 1), (.iload 2, 1), (.invokeinterface 142 1, 3), (.multianewarray 199 55, 3), (.ifCond .eq 10, 3), (.sipush (1), 1), (.aload 0, 1), (.getfield 243, 3), (.iload 3, 1), (.iaload, 1), (.ishl, 1), (.goto 11, 3)]),
  (129, [(.sipush (0), 1), (.goto 11, 0)]),
  (130, [(.ior, 1), (.istore 2, 1), (.iinc 3 (1), 3), (.goto 9, 3)]),
  (138, [(.iload 2, 1), (.ireturn, 1)])]
def mX7_byTurns : ac_M := (yX7_byTurns, cX7_byTurns, 4, (some .int), 7, 0, 0, (0, 0), [], bX7_byTurns, [1574, 83, 1573, 59], [])
def bX7_inTurn : List (Nat × ac_I) := [(0, [(.aload 0, 1), (.sipush (0), 1), (.putfield 228, 3), (.sipush (0), 1), (.istore 1, 1), (.goto 1, 0)]),
  (7, [(.iload 1, 1), (.aload 0, 1), (.multianewarray 159 23, 3), (.if_icmp .ge 2, 3), (.aload 0, 1), (.getfield 243, 3), (.iload 1, 1), (.iload 1, 1), (.iastore, 1), (.iinc 1 (1), 3), (.goto 1, 3)]),
  (28, [(.aload 0, 1), (.multianewarray 200 23, 3), (.ireturn, 1)])]
def mX7_inTurn : ac_M := (yX7_inTurn, cX7_inTurn, 2, (some .int), 7, 0, 0, (0, 0), [], bX7_inTurn, [1570, 83, 1568, 1569], [])
def bX7_turnsBy : List (Nat × ac_I) := [(0, [(.aload 0, 1), (.aload 0, 1), (.iload 1, 1), (.multianewarray 188 39, 3), (.putfield 228, 3), (.aload 0, 1), (.getfield 228, 3), (.ifCond .le 1, 3), (.sipush (0), 1), (.ireturn, 1)]),
  (18, [(.aload 0, 1), (.getfield 250, 3), (.iload 1, 1), (.iaload, 1), (.aload 0, 1), (.multianewarray 159 23, 3), (.if_icmp .ne 2, 3), (.iload 2, 1), (.i2l, 1), (.ldc2_w 0, 1), (.ldc2_w 1, 1), (.invokeinterface 140 3, 3), (.ifCond .eq 2, 3), (.sipush (1), 1), (.goto 3, 3)]),
  (45, [(.sipush (0), 1), (.goto 3, 0)]),
  (46, [(.istore 3, 1), (.sipush (0), 1), (.istore 4, 2), (.sipush (0), 1), (.istore 5, 2), (.goto 4, 0)]),
  (53, [(.iload 5, 2), (.aload 0, 1), (.multianewarray 159 23, 3), (.if_icmp .ge 7, 3), (.iload 3, 1), (.ifCond .eq 7, 3), (.aload 0, 1), (.getfield 251, 3), (.sipush (60), 2), (.iload 1, 1), (.imul, 1), (.iload 5, 2), (.iadd, 1), (.laload, 1), (.ldc2_w 0, 1), (.aload 0, 1), (.multianewarray 159 23, 3), (.sipush (1), 1), (.isub, 1), (.i2l, 1), (.invokeinterface 140 3, 3), (.ifCond .eq 5, 3), (.iload 4, 2), (.aload 0, 1), (.getfield 251, 3), (.sipush (60), 2), (.iload 1, 1), (.imul, 1), (.iload 5, 2), (.iadd, 1), (.laload, 1), (.l2i, 1), (.invokeinterface 141 2, 3), (.ifCond .ne 5, 3), (.sipush (1), 1), (.goto 6, 3)]),
  (117, [(.sipush (0), 1), (.goto 6, 0)]),
  (118, [(.istore 3, 1), (.aload 0, 1), (.getfield 243, 3), (.iload 5, 2), (.aload 0, 1), (.getfield 251, 3), (.sipush (60), 2), (.iload 1, 1), (.imul, 1), (.iload 5, 2), (.iadd, 1), (.laload, 1), (.l2i, 1), (.iastore, 1), (.iload 4, 2), (.sipush (1), 1), (.aload 0, 1), (.getfield 243, 3), (.iload 5, 2), (.iaload, 1), (.ishl, 1), (.ior, 1), (.istore 4, 2), (.iinc 5 (1), 3), (.goto 4, 3)]),
  (159, [(.iload 3, 1), (.ifCond .ne 8, 3), (.aload 0, 1), (.sipush (3), 1), (.multianewarray 139 39, 3), (.ireturn, 1)]),
  (169, [(.aload 0, 1), (.multianewarray 200 23, 3), (.istore 5, 2), (.iload 2, 1), (.ifCond .ne 9, 3), (.iload 5, 2), (.ireturn, 1)]),
  (182, [(.sipush (0), 1), (.istore 6, 2), (.goto 10, 0)]),
  (185, [(.iload 6, 2), (.aload 0, 1), (.multianewarray 159 23, 3), (.if_icmp .ge 12, 3), (.iload 5, 2), (.aload 0, 1), (.getfield 243, 3), (.iload 6, 2), (.iaload, 1), (.invokeinterface 141 2, 3), (.ifCond .eq 11, 3), (.aload 0, 1), (.getfield 243, 3), (.iload 6, 2), (.iaload, 1), (.ireturn, 1)]),
  (217, [(.iinc 6 (1), 3), (.goto 10, 3)]),
  (223, [(.sipush (-1), 1), (.ireturn, 1)])]
def mX7_turnsBy : ac_M := (yX7_turnsBy, cX7_turnsBy, 7, (some .int), 7, 0, 2, (0, 0), [], bX7_turnsBy, [1582, 83, 1580, 1581], [])
def bX7_payOfTwo : List (Nat × ac_I) := [(0, [(.iload 2, 1), (.ifCond .ne 1, 3), (.sipush (0), 1), (.ireturn, 1)]),
  (6, [(.aload 0, 1), (.getfield 246, 3), (.iload 2, 1), (.iaload, 1), (.aload 0, 1), (.getfield 245, 3), (.iload 1, 1), (.iaload, 1), (.iload 2, 1), (.if_icmp .ne 2, 3), (.sipush (0), 1), (.goto 3, 3)]),
  (26, [(.sipush (1), 1), (.goto 3, 0)]),
  (27, [(.iadd, 1), (.istore 5, 2), (.iload 2, 1), (.sipush (1), 1), (.if_icmp .ne 5, 3), (.iload 5, 2), (.aload 0, 1), (.getfield 224, 3), (.sipush (1), 1), (.iaload, 1), (.if_icmp .ne 4, 3), (.aload 0, 1), (.getfield 224, 3), (.sipush (2), 1), (.iaload, 1), (.goto 7, 3)]),
  (55, [(.sipush (0), 1), (.goto 7, 3)]),
  (59, [(.iload 5, 2), (.iload 3, 1), (.if_icmp .ne 6, 3), (.iload 4, 2), (.goto 7, 3)]),
  (70, [(.sipush (0), 1), (.goto 7, 0)]),
  (71, [(.aload 0, 1), (.iload 1, 1), (.sipush (2), 1), (.multianewarray 163 55, 3), (.isub, 1), (.ireturn, 1)])]
def mX7_payOfTwo : ac_M := (yX7_payOfTwo, cX7_payOfTwo, 6, (some .int), 7, 0, 4, (0, 0), [], bX7_payOfTwo, [1595, 83, 1594, 62], [])
def bX7_restsInTwo : List (Nat × ac_I) := [(0, [(.sipush (0), 1), (.istore 4, 2), (.goto 1, 0)]),
  (3, [(.iload 4, 2), (.sipush (3), 1), (.if_icmp .ge 2, 3), (.aload 0, 1), (.getfield 246, 3), (.iload 4, 2), (.sipush (0), 1), (.iastore, 1), (.iinc 4 (1), 3), (.goto 1, 3)]),
  (23, [(.iload 1, 1), (.istore 4, 2), (.sipush (0), 1), (.istore 5, 2), (.goto 3, 0)]),
  (29, [(.iload 5, 2), (.aload 0, 1), (.multianewarray 159 23, 3), (.if_icmp .ge 4, 3), (.aload 0, 1), (.getfield 245, 3), (.iload 5, 2), (.iload 4, 2), (.sipush (3), 1), (.irem, 1), (.iastore, 1), (.aload 0, 1), (.getfield 246, 3), (.aload 0, 1), (.getfield 245, 3), (.iload 5, 2), (.iaload, 1), (.dup2, 1), (.iaload, 1), (.sipush (1), 1), (.iadd, 1), (.iastore, 1), (.iload 4, 2), (.sipush (3), 1), (.idiv, 1), (.istore 4, 2), (.iinc 5 (1), 3), (.goto 3, 3)]),
  (77, [(.sipush (0), 1), (.istore 5, 2), (.goto 5, 0)]),
  (80, [(.iload 5, 2), (.aload 0, 1), (.multianewarray 159 23, 3), (.if_icmp .ge 9, 3), (.sipush (0), 1), (.istore 6, 2), (.goto 6, 0)]),
  (92, [(.iload 6, 2), (.sipush (3), 1), (.if_icmp .ge 8, 3), (.aload 0, 1), (.iload 5, 2), (.iload 6, 2), (.iload 2, 1), (.iload 3, 1), (.multianewarray 203 87, 3), (.aload 0, 1), (.iload 5, 2), (.aload 0, 1), (.getfield 245, 3), (.iload 5, 2), (.iaload, 1), (.iload 2, 1), (.iload 3, 1), (.multianewarray 203 87, 3), (.if_icmp .le 7, 3), (.sipush (0), 1), (.ireturn, 1)]),
  (128, [(.iinc 6 (1), 3), (.goto 6, 3)]),
  (134, [(.iinc 5 (1), 3), (.goto 5, 3)]),
  (140, [(.sipush (1), 1), (.ireturn, 1)])]
def mX7_restsInTwo : ac_M := (yX7_restsInTwo, cX7_restsInTwo, 7, (some .boolean), 7, 0, 3, (0, 0), [], bX7_restsInTwo, [1591, 83, 1590, 61], [])
def bX7_two : List (Nat × ac_I) := [(0, [(.aload 0, 1), (.iload 1, 1), (.i2l, 1), (.ldc2_w 1, 1), (.ldc2_w 12, 3), (.invokeinterface 140 3, 3), (.ifCond .eq 1, 3), (.iload 2, 1), (.i2l, 1), (.ldc2_w 0, 1), (.ldc2_w 999, 3), (.invokeinterface 140 3, 3), (.ifCond .ne 2, 3), (.goto 1, 0)]),
  (25, [(.sipush (1), 1), (.goto 4, 3)]),
  (29, [(.aload 0, 1), (.multianewarray 159 23, 3), (.sipush (8), 2), (.if_icmp .le 3, 3), (.sipush (2), 1), (.goto 4, 3)]),
  (42, [(.sipush (0), 1), (.goto 4, 0)]),
  (43, [(.putfield 228, 3), (.aload 0, 1), (.getfield 228, 3), (.ifCond .le 5, 3), (.sipush (0), 1), (.ireturn, 1)]),
  (55, [(.sipush (1), 1), (.istore 4, 2), (.sipush (0), 1), (.istore 5, 2), (.goto 6, 0)]),
  (61, [(.iload 5, 2), (.aload 0, 1), (.multianewarray 159 23, 3), (.if_icmp .ge 7, 3), (.iload 4, 2), (.sipush (3), 1), (.imul, 1), (.istore 4, 2), (.iinc 5 (1), 3), (.goto 6, 3)]),
  (82, [(.sipush (0), 1), (.istore 5, 2), (.sipush (0), 1), (.istore 6, 2), (.goto 8, 0)]),
  (88, [(.iload 6, 2), (.iload 4, 2), (.if_icmp .ge 12, 3), (.aload 0, 1), (.iload 6, 2), (.iload 1, 1), (.iload 2, 1), (.multianewarray 204 71, 3), (.ifCond .ne 9, 3), (.goto 11, 3)]),
  (109, [(.iload 5, 2), (.iload 3, 1), (.if_icmp .ne 10, 3), (.iload 6, 2), (.ireturn, 1)]),
  (118, [(.iinc 5 (1), 3), (.goto 11, 0)]),
  (121, [(.iinc 6 (1), 3), (.goto 8, 3)]),
  (127, [(.iload 3, 1), (.sipush (-1), 1), (.if_icmp .ne 13, 3), (.iload 5, 2), (.goto 14, 3)]),
  (137, [(.sipush (-1), 1), (.goto 14, 0)]),
  (138, [(.ireturn, 1)])]
def mX7_two : ac_M := (yX7_two, cX7_two, 7, (some .int), 7, 0, 3, (0, 0), [], bX7_two, [1586, 83, 1584, 1585], [])
def bX7_bestRest : List (Nat × ac_I) := [(0, [(.aload 0, 1), (.sipush (0), 1), (.putfield 228, 3), (.sipush (-1), 1), (.istore 1, 1), (.sipush (0), 1), (.istore 2, 1), (.goto 1, 0)]),
  (9, [(.iload 2, 1), (.aload 0, 1), (.multianewarray 160 23, 3), (.if_icmp .gt 4, 3), (.aload 0, 1), (.iload 2, 1), (.multianewarray 191 39, 3), (.sipush (-1), 1), (.if_icmp .ne 3, 3), (.iload 1, 1), (.sipush (-1), 1), (.if_icmp .eq 2, 3), (.aload 0, 1), (.iload 2, 1), (.multianewarray 192 39, 3), (.aload 0, 1), (.iload 1, 1), (.multianewarray 192 39, 3), (.if_icmp .le 3, 3), (.goto 2, 0)]),
  (44, [(.iload 2, 1), (.istore 1, 1), (.goto 3, 0)]),
  (46, [(.iinc 2 (1), 3), (.goto 1, 3)]),
  (52, [(.iload 1, 1), (.ireturn, 1)])]
def mX7_bestRest : ac_M := (yX7_bestRest, cX7_bestRest, 3, (some .int), 7, 0, 0, (0, 0), [], bX7_bestRest, [1599, 83, 1597, 1598], [])
def bX7_pay : List (Nat × ac_I) := [(0, [(.aload 0, 1), (.sipush (0), 1), (.putfield 228, 3), (.aload 0, 1), (.iload 1, 1), (.multianewarray 162 39, 3), (.ifCond .eq 1, 3), (.aload 0, 1), (.iload 1, 1), (.multianewarray 192 39, 3), (.goto 2, 3)]),
  (21, [(.aload 0, 1), (.sipush (1), 1), (.multianewarray 139 39, 3), (.goto 2, 0)]),
  (26, [(.ireturn, 1)])]
def mX7_pay : ac_M := (yX7_pay, cX7_pay, 2, (some .int), 7, 0, 1, (0, 0), [], bX7_pay, [1607, 83, 1605, 1606], [])
def bX7_pivots : List (Nat × ac_I) := [(0, [(.aload 0, 1), (.sipush (0), 1), (.putfield 228, 3), (.aload 0, 1), (.iload 1, 1), (.multianewarray 162 39, 3), (.ifCond .ne 1, 3), (.aload 0, 1), (.sipush (1), 1), (.multianewarray 139 39, 3), (.ireturn, 1)]),
  (19, [(.sipush (0), 1), (.istore 2, 1), (.sipush (0), 1), (.istore 3, 1), (.goto 2, 0)]),
  (23, [(.iload 3, 1), (.aload 0, 1), (.multianewarray 159 23, 3), (.if_icmp .ge 5, 3), (.iload 2, 1), (.aload 0, 1), (.iload 1, 1), (.sipush (1), 1), (.iload 3, 1), (.ishl, 1), (.ixor, 1), (.multianewarray 164 39, 3), (.aload 0, 1), (.iload 1, 1), (.multianewarray 164 39, 3), (.if_icmp .eq 3, 3), (.sipush (1), 1), (.iload 3, 1), (.ishl, 1), (.goto 4, 3)]),
  (55, [(.sipush (0), 1), (.goto 4, 0)]),
  (56, [(.ior, 1), (.istore 2, 1), (.iinc 3 (1), 3), (.goto 2, 3)]),
  (64, [(.iload 2, 1), (.ireturn, 1)])]
def mX7_pivots : ac_M := (yX7_pivots, cX7_pivots, 4, (some .int), 7, 0, 1, (0, 0), [], bX7_pivots, [1611, 83, 1609, 1610], [])
def bX7_replies : List (Nat × ac_I) := [(0, [(.aload 0, 1), (.aload 0, 1), (.iload 1, 1), (.multianewarray 162 39, 3), (.ifCond .eq 1, 3), (.iload 2, 1), (.i2l, 1), (.ldc2_w 0, 1), (.ldc2_w 1, 1), (.invokeinterface 140 3, 3), (.ifCond .eq 1, 3), (.sipush (0), 1), (.goto 2, 3)]),
  (23, [(.sipush (1), 1), (.goto 2, 0)]),
  (24, [(.putfield 228, 3), (.aload 0, 1), (.getfield 228, 3), (.ifCond .le 3, 3), (.sipush (0), 1), (.ireturn, 1)]),
  (36, [(.iload 1, 1), (.istore 3, 1), (.sipush (0), 1), (.istore 4, 2), (.goto 4, 0)]),
  (41, [(.iload 4, 2), (.sipush (4096), 3), (.if_icmp .gt 8, 3), (.aload 0, 1), (.iload 3, 1), (.multianewarray 191 39, 3), (.istore 5, 2), (.iload 5, 2), (.sipush (-1), 1), (.if_icmp .ne 7, 3), (.iload 2, 1), (.ifCond .ne 5, 3), (.iload 3, 1), (.goto 6, 3)]),
  (70, [(.iload 4, 2), (.goto 6, 0)]),
  (72, [(.ireturn, 1)]),
  (73, [(.iload 3, 1), (.sipush (1), 1), (.iload 5, 2), (.ishl, 1), (.ixor, 1), (.istore 3, 1), (.iinc 4 (1), 3), (.goto 4, 3)]),
  (86, [(.sipush (-1), 1), (.ireturn, 1)])]
def mX7_replies : ac_M := (yX7_replies, cX7_replies, 6, (some .int), 7, 0, 2, (0, 0), [], bX7_replies, [1615, 83, 1613, 1614], [])
def bX7_bribeOf : List (Nat × ac_I) := [(0, [(.sipush (0), 1), (.istore 2, 1), (.sipush (0), 1), (.istore 3, 1), (.goto 1, 0)]),
  (4, [(.iload 3, 1), (.aload 0, 1), (.multianewarray 159 23, 3), (.if_icmp .ge 2, 3), (.iload 2, 1), (.sipush (0), 1), (.aload 0, 1), (.iload 1, 1), (.iload 3, 1), (.multianewarray 190 55, 3), (.invokeinterface 253 2, 3), (.iadd, 1), (.istore 2, 1), (.iinc 3 (1), 3), (.goto 1, 3)]),
  (31, [(.iload 2, 1), (.ireturn, 1)])]
def mX7_bribeOf : ac_M := (yX7_bribeOf, cX7_bribeOf, 4, (some .int), 7, 0, 1, (0, 0), [], bX7_bribeOf, [1623, 83, 1622, 64], [])
def bX7_bribe : List (Nat × ac_I) := [(0, [(.aload 0, 1), (.sipush (0), 1), (.putfield 228, 3), (.aload 0, 1), (.iload 1, 1), (.multianewarray 162 39, 3), (.ifCond .eq 1, 3), (.aload 0, 1), (.iload 1, 1), (.multianewarray 210 39, 3), (.goto 2, 3)]),
  (21, [(.aload 0, 1), (.sipush (1), 1), (.multianewarray 139 39, 3), (.goto 2, 0)]),
  (26, [(.ireturn, 1)])]
def mX7_bribe : ac_M := (yX7_bribe, cX7_bribe, 2, (some .int), 7, 0, 1, (0, 0), [], bX7_bribe, [1619, 83, 1617, 1618], [])
def bX7_costOf : List (Nat × ac_I) := [(0, [(.sipush (0), 1), (.istore 2, 1), (.sipush (0), 1), (.istore 3, 1), (.goto 1, 0)]),
  (4, [(.iload 3, 1), (.aload 0, 1), (.multianewarray 159 23, 3), (.if_icmp .ge 4, 3), (.iload 2, 1), (.iload 1, 1), (.iload 3, 1), (.invokeinterface 141 2, 3), (.ifCond .eq 2, 3), (.aload 0, 1), (.iload 3, 1), (.sipush (2), 1), (.multianewarray 163 55, 3), (.goto 3, 3)]),
  (30, [(.sipush (0), 1), (.goto 3, 0)]),
  (31, [(.iadd, 1), (.istore 2, 1), (.iinc 3 (1), 3), (.goto 1, 3)]),
  (39, [(.iload 2, 1), (.ireturn, 1)])]
def mX7_costOf : ac_M := (yX7_costOf, cX7_costOf, 4, (some .int), 7, 0, 1, (0, 0), [], bX7_costOf, [1636, 83, 1635, 66], [])
def bX7_leastSet : List (Nat × ac_I) := [(0, [(.sipush (-1), 1), (.istore 2, 1), (.sipush (0), 1), (.istore 3, 1), (.sipush (0), 1), (.istore 4, 2), (.goto 1, 0)]),
  (7, [(.iload 4, 2), (.aload 0, 1), (.multianewarray 160 23, 3), (.if_icmp .gt 7, 3), (.aload 0, 1), (.iload 4, 2), (.multianewarray 164 39, 3), (.ifCond .ne 2, 3), (.goto 6, 3)]),
  (28, [(.iload 1, 1), (.ifCond .eq 3, 3), (.aload 0, 1), (.iload 4, 2), (.multianewarray 210 39, 3), (.goto 4, 3)]),
  (41, [(.aload 0, 1), (.iload 4, 2), (.multianewarray 212 39, 3), (.goto 4, 0)]),
  (47, [(.istore 5, 2), (.iload 2, 1), (.sipush (-1), 1), (.if_icmp .eq 5, 3), (.iload 5, 2), (.iload 3, 1), (.if_icmp .lt 5, 3), (.goto 6, 3)]),
  (63, [(.iload 4, 2), (.istore 2, 1), (.iload 5, 2), (.istore 3, 1), (.goto 6, 0)]),
  (69, [(.iinc 4 (1), 3), (.goto 1, 3)]),
  (75, [(.iload 2, 1), (.ireturn, 1)])]
def mX7_leastSet : ac_M := (yX7_leastSet, cX7_leastSet, 6, (some .int), 7, 0, 1, (0, 0), [], bX7_leastSet, [1632, 83, 1631, 65], [])
def bX7_leastBribe : List (Nat × ac_I) := [(0, [(.aload 0, 1), (.iload 1, 1), (.i2l, 1), (.ldc2_w 0, 1), (.ldc2_w 1, 1), (.invokeinterface 140 3, 3), (.ifCond .eq 1, 3), (.sipush (0), 1), (.goto 2, 3)]),
  (15, [(.sipush (1), 1), (.goto 2, 0)]),
  (16, [(.putfield 228, 3), (.aload 0, 1), (.getfield 228, 3), (.ifCond .le 3, 3), (.sipush (0), 1), (.ireturn, 1)]),
  (28, [(.aload 0, 1), (.sipush (1), 1), (.multianewarray 213 39, 3), (.istore 2, 1), (.iload 2, 1), (.sipush (-1), 1), (.if_icmp .eq 4, 3), (.iload 1, 1), (.sipush (1), 1), (.if_icmp .ne 5, 3), (.goto 4, 0)]),
  (44, [(.iload 2, 1), (.goto 6, 3)]),
  (48, [(.aload 0, 1), (.iload 2, 1), (.multianewarray 210 39, 3), (.goto 6, 0)]),
  (53, [(.ireturn, 1)])]
def mX7_leastBribe : ac_M := (yX7_leastBribe, cX7_leastBribe, 3, (some .int), 7, 0, 1, (0, 0), [], bX7_leastBribe, [1628, 83, 1626, 1627], [])
def bX7_contract : List (Nat × ac_I) := [(0, [(.aload 0, 1), (.iload 1, 1), (.i2l, 1), (.ldc2_w 0, 1), (.ldc2_w 1, 1), (.invokeinterface 140 3, 3), (.ifCond .eq 1, 3), (.sipush (0), 1), (.goto 2, 3)]),
  (15, [(.sipush (1), 1), (.goto 2, 0)]),
  (16, [(.putfield 228, 3), (.aload 0, 1), (.getfield 228, 3), (.ifCond .le 3, 3), (.sipush (0), 1), (.ireturn, 1)]),
  (28, [(.aload 0, 1), (.sipush (0), 1), (.multianewarray 213 39, 3), (.istore 2, 1), (.iload 2, 1), (.sipush (-1), 1), (.if_icmp .eq 4, 3), (.iload 1, 1), (.sipush (1), 1), (.if_icmp .ne 5, 3), (.goto 4, 0)]),
  (44, [(.iload 2, 1), (.goto 6, 3)]),
  (48, [(.aload 0, 1), (.iload 2, 1), (.multianewarray 212 39, 3), (.goto 6, 0)]),
  (53, [(.ireturn, 1)])]
def mX7_contract : ac_M := (yX7_contract, cX7_contract, 3, (some .int), 7, 0, 1, (0, 0), [], bX7_contract, [1640, 83, 1638, 1639], [])
def bX7_waysBegin : List (Nat × ac_I) := [(0, [(.sipush (0), 1), (.istore 1, 1), (.goto 1, 0)]),
  (2, [(.iload 1, 1), (.aload 0, 1), (.getfield 247, 3), (.arraylength, 1), (.if_icmp .ge 4, 3), (.aload 0, 1), (.getfield 247, 3), (.iload 1, 1), (.iload 1, 1), (.ifCond .ne 2, 3), (.ldc2_w 1, 1), (.goto 3, 3)]),
  (24, [(.ldc2_w 0, 1), (.goto 3, 0)]),
  (25, [(.lastore, 1), (.iinc 1 (1), 3), (.goto 1, 3)]),
  (32, [(.return_, 1)])]
def mX7_waysBegin : ac_M := (yX7_waysBegin, cX7_waysBegin, 2, none, 7, 0, 0, (0, 0), [], bX7_waysBegin, [1653, 83, 1652, 68], [])
def ms7 : List ac_M := [mX7_strongs, mX7_wants, mX7_byTurns, mX7_inTurn, mX7_turnsBy, mX7_payOfTwo, mX7_restsInTwo, mX7_two, mX7_bestRest, mX7_pay, mX7_pivots, mX7_replies, mX7_bribeOf, mX7_bribe, mX7_costOf, mX7_leastSet, mX7_leastBribe, mX7_contract, mX7_waysBegin]
def bX7_waysGo : List (Nat × ac_I) := [(0, [(.aload 0, 1), (.getfield 247, 3), (.arraylength, 1), (.sipush (1), 1), (.isub, 1), (.istore 5, 2), (.goto 1, 0)]),
  (9, [(.iload 5, 2), (.ifCond .lt 4, 3), (.aload 0, 1), (.getfield 247, 3), (.iload 5, 2), (.aload 0, 1), (.getfield 247, 3), (.iload 5, 2), (.laload, 1), (.lload 3, 1), (.lload 1, 1), (.lsub, 1), (.lmul, 1), (.iload 5, 2), (.ifCond .le 2, 3), (.aload 0, 1), (.getfield 247, 3), (.iload 5, 2), (.sipush (1), 1), (.isub, 1), (.laload, 1), (.lload 1, 1), (.lmul, 1), (.goto 3, 3)]),
  (50, [(.ldc2_w 0, 1), (.goto 3, 0)]),
  (51, [(.ladd, 1), (.lastore, 1), (.iinc 5 (-1), 3), (.goto 1, 3)]),
  (59, [(.return_, 1)])]
def mX7_waysGo : ac_M := (yX7_waysGo, cX7_waysGo, 6, none, 7, 0, 2, (0, 0), [], bX7_waysGo, [1657, 83, 1656, 69], [])
def bX7_waysOf : List (Nat × ac_I) := [(0, [(.aload 0, 1), (.multianewarray 216 23, 3), (.sipush (0), 1), (.istore 5, 2), (.goto 1, 0)]),
  (7, [(.iload 5, 2), (.iload 1, 1), (.if_icmp .ge 2, 3), (.aload 0, 1), (.iload 2, 1), (.i2l, 1), (.iload 3, 1), (.i2l, 1), (.multianewarray 217 55, 3), (.iinc 5 (1), 3), (.goto 1, 3)]),
  (27, [(.iload 4, 2), (.i2l, 1), (.ldc2_w 0, 1), (.iload 1, 1), (.i2l, 1), (.invokeinterface 140 3, 3), (.ifCond .eq 3, 3), (.aload 0, 1), (.getfield 247, 3), (.iload 4, 2), (.laload, 1), (.goto 4, 3)]),
  (49, [(.ldc2_w 0, 1), (.goto 4, 0)]),
  (50, [(.lreturn, 1)])]
def mX7_waysOf : ac_M := (yX7_waysOf, cX7_waysOf, 6, (some .long), 7, 0, 4, (0, 0), [], bX7_waysOf, [1649, 83, 1648, 67], [])
def bX7_odds : List (Nat × ac_I) := [(0, [(.aload 0, 1), (.iload 2, 1), (.i2l, 1), (.ldc2_w 1, 1), (.ldc2_w 20, 3), (.invokeinterface 140 3, 3), (.ifCond .eq 1, 3), (.iload 1, 1), (.i2l, 1), (.ldc2_w 0, 1), (.iload 2, 1), (.i2l, 1), (.invokeinterface 140 3, 3), (.ifCond .eq 1, 3), (.sipush (0), 1), (.goto 2, 3)]),
  (28, [(.sipush (1), 1), (.goto 2, 0)]),
  (29, [(.putfield 228, 3), (.aload 0, 1), (.getfield 228, 3), (.ifCond .le 3, 3), (.ldc2_w 0, 1), (.goto 4, 3)]),
  (43, [(.aload 0, 1), (.aload 0, 1), (.multianewarray 159 23, 3), (.iload 1, 1), (.iload 2, 1), (.iload 3, 1), (.multianewarray 218 87, 3), (.goto 4, 0)]),
  (54, [(.lreturn, 1)])]
def mX7_odds : ac_M := (yX7_odds, cX7_odds, 4, (some .long), 7, 0, 3, (0, 0), [], bX7_odds, [1644, 83, 1642, 1643], [])
def bX7_bestOdds : List (Nat × ac_I) := [(0, [(.aload 0, 1), (.sipush (0), 1), (.putfield 228, 3), (.iload 1, 1), (.i2l, 1), (.ldc2_w 1, 1), (.ldc2_w 20, 3), (.invokeinterface 140 3, 3), (.ifCond .ne 1, 3), (.aload 0, 1), (.sipush (1), 1), (.multianewarray 139 39, 3), (.ireturn, 1)]),
  (23, [(.sipush (0), 1), (.istore 2, 1), (.sipush (1), 1), (.istore 3, 1), (.goto 2, 0)]),
  (27, [(.iload 3, 1), (.iload 1, 1), (.if_icmp .gt 4, 3), (.aload 0, 1), (.aload 0, 1), (.multianewarray 159 23, 3), (.iload 3, 1), (.iload 1, 1), (.aload 0, 1), (.getfield 224, 3), (.sipush (1), 1), (.iaload, 1), (.multianewarray 218 87, 3), (.aload 0, 1), (.aload 0, 1), (.multianewarray 159 23, 3), (.iload 2, 1), (.iload 1, 1), (.aload 0, 1), (.getfield 224, 3), (.sipush (1), 1), (.iaload, 1), (.multianewarray 218 87, 3), (.lcmp, 1), (.ifCond .le 3, 3), (.iload 3, 1), (.istore 2, 1), (.goto 3, 0)]),
  (70, [(.iinc 3 (1), 3), (.goto 2, 3)]),
  (76, [(.iload 2, 1), (.ireturn, 1)])]
def mX7_bestOdds : ac_M := (yX7_bestOdds, cX7_bestOdds, 4, (some .int), 7, 0, 1, (0, 0), [], bX7_bestOdds, [1661, 83, 1659, 1660], [])
def bX7_chances : List (Nat × ac_I) := [(0, [(.aload 0, 1), (.aload 0, 1), (.iload 1, 1), (.multianewarray 188 39, 3), (.putfield 228, 3), (.aload 0, 1), (.getfield 228, 3), (.ifCond .le 1, 3), (.ldc2_w 0, 1), (.lreturn, 1)]),
  (18, [(.iload 2, 1), (.i2l, 1), (.ldc2_w 1, 1), (.ldc2_w 20, 3), (.invokeinterface 140 3, 3), (.ifCond .eq 2, 3), (.aload 0, 1), (.getfield 250, 3), (.iload 1, 1), (.iaload, 1), (.aload 0, 1), (.multianewarray 159 23, 3), (.if_icmp .ne 2, 3), (.sipush (1), 1), (.goto 3, 3)]),
  (47, [(.sipush (0), 1), (.goto 3, 0)]),
  (48, [(.istore 4, 2), (.sipush (0), 1), (.istore 5, 2), (.goto 4, 0)]),
  (53, [(.iload 5, 2), (.aload 0, 1), (.multianewarray 159 23, 3), (.if_icmp .ge 5, 3), (.iload 4, 2), (.ifCond .eq 5, 3), (.aload 0, 1), (.getfield 251, 3), (.sipush (60), 2), (.iload 1, 1), (.imul, 1), (.iload 5, 2), (.iadd, 1), (.laload, 1), (.ldc2_w 0, 1), (.iload 2, 1), (.i2l, 1), (.invokeinterface 140 3, 3), (.istore 4, 2), (.iinc 5 (1), 3), (.goto 4, 3)]),
  (93, [(.iload 4, 2), (.ifCond .ne 6, 3), (.aload 0, 1), (.sipush (3), 1), (.multianewarray 139 39, 3), (.i2l, 1), (.lreturn, 1)]),
  (105, [(.aload 0, 1), (.multianewarray 216 23, 3), (.sipush (0), 1), (.istore 5, 2), (.goto 7, 0)]),
  (112, [(.iload 5, 2), (.aload 0, 1), (.multianewarray 159 23, 3), (.if_icmp .ge 8, 3), (.aload 0, 1), (.aload 0, 1), (.getfield 251, 3), (.sipush (60), 2), (.iload 1, 1), (.imul, 1), (.iload 5, 2), (.iadd, 1), (.laload, 1), (.iload 2, 1), (.i2l, 1), (.multianewarray 217 55, 3), (.iinc 5 (1), 3), (.goto 7, 3)]),
  (145, [(.iload 3, 1), (.i2l, 1), (.ldc2_w 0, 1), (.aload 0, 1), (.multianewarray 159 23, 3), (.i2l, 1), (.invokeinterface 140 3, 3), (.ifCond .eq 9, 3), (.aload 0, 1), (.getfield 247, 3), (.iload 3, 1), (.laload, 1), (.goto 10, 3)]),
  (168, [(.ldc2_w 0, 1), (.goto 10, 0)]),
  (169, [(.lreturn, 1)])]
def mX7_chances : ac_M := (yX7_chances, cX7_chances, 6, (some .long), 7, 0, 3, (0, 0), [], bX7_chances, [1665, 83, 1663, 1664], [])
def bX7_hope : List (Nat × ac_I) := [(0, [(.aload 0, 1), (.aload 0, 1), (.iload 1, 1), (.multianewarray 161 39, 3), (.ifCond .ne 1, 3), (.sipush (1), 1), (.goto 3, 3)]),
  (13, [(.iload 3, 1), (.i2l, 1), (.ldc2_w 1, 1), (.ldc2_w 20, 3), (.invokeinterface 140 3, 3), (.ifCond .eq 2, 3), (.iload 2, 1), (.i2l, 1), (.ldc2_w 0, 1), (.iload 3, 1), (.i2l, 1), (.invokeinterface 140 3, 3), (.ifCond .eq 2, 3), (.iload 4, 2), (.i2l, 1), (.ldc2_w 0, 1), (.ldc2_w 1, 1), (.invokeinterface 140 3, 3), (.ifCond .eq 2, 3), (.sipush (0), 1), (.goto 3, 3)]),
  (51, [(.sipush (2), 1), (.goto 3, 0)]),
  (52, [(.putfield 228, 3), (.aload 0, 1), (.getfield 228, 3), (.ifCond .le 4, 3), (.ldc2_w 0, 1), (.lreturn, 1)]),
  (64, [(.ldc2_w 1, 1), (.lstore 5, 2), (.sipush (1), 1), (.istore 7, 2), (.goto 5, 0)]),
  (70, [(.iload 7, 2), (.aload 0, 1), (.multianewarray 159 23, 3), (.if_icmp .ge 6, 3), (.lload 5, 2), (.iload 3, 1), (.i2l, 1), (.lmul, 1), (.lstore 5, 2), (.iinc 7 (1), 3), (.goto 5, 3)]),
  (92, [(.aload 0, 1), (.getfield 224, 3), (.sipush (2), 1), (.iaload, 1), (.i2l, 1), (.aload 0, 1), (.aload 0, 1), (.multianewarray 159 23, 3), (.sipush (1), 1), (.isub, 1), (.iload 2, 1), (.iload 3, 1), (.aload 0, 1), (.getfield 224, 3), (.sipush (1), 1), (.iaload, 1), (.sipush (1), 1), (.isub, 1), (.multianewarray 218 87, 3), (.lmul, 1), (.aload 0, 1), (.iload 1, 1), (.sipush (2), 1), (.multianewarray 163 55, 3), (.i2l, 1), (.lload 5, 2), (.lmul, 1), (.lsub, 1), (.lstore 7, 2), (.lload 7, 2), (.lload 5, 2), (.lrem, 1), (.lload 5, 2), (.ladd, 1), (.lload 5, 2), (.lrem, 1), (.lstore 9, 2), (.iload 4, 2), (.ifCond .ne 7, 3), (.lload 7, 2), (.lload 9, 2), (.lsub, 1), (.lload 5, 2), (.ldiv, 1), (.goto 8, 3)]),
  (162, [(.lload 9, 2), (.goto 8, 0)]),
  (164, [(.lreturn, 1)])]
def mX7_hope : ac_M := (yX7_hope, cX7_hope, 11, (some .long), 7, 0, 4, (0, 0), [], bX7_hope, [1669, 83, 1667, 1668], [])
def bX7_metAhead : List (Nat × ac_I) := [(0, [(.aload 0, 1), (.multianewarray 168 23, 3), (.sipush (0), 1), (.istore 2, 1), (.sipush (0), 1), (.istore 3, 1), (.goto 1, 0)]),
  (8, [(.iload 3, 1), (.iload 1, 1), (.if_icmp .ge 4, 3), (.iload 2, 1), (.aload 0, 1), (.aload 0, 1), (.multianewarray 169 23, 3), (.multianewarray 164 39, 3), (.ifCond .eq 2, 3), (.sipush (1), 1), (.goto 3, 3)]),
  (29, [(.sipush (0), 1), (.goto 3, 0)]),
  (30, [(.iadd, 1), (.istore 2, 1), (.iinc 3 (1), 3), (.goto 1, 3)]),
  (38, [(.iload 2, 1), (.ireturn, 1)])]
def mX7_metAhead : ac_M := (yX7_metAhead, cX7_metAhead, 4, (some .int), 7, 0, 1, (0, 0), [], bX7_metAhead, [1680, 83, 1679, 70], [])
def bX7_ahead : List (Nat × ac_I) := [(0, [(.aload 0, 1), (.iload 1, 1), (.i2l, 1), (.ldc2_w 1, 1), (.ldc2_w 60, 3), (.invokeinterface 140 3, 3), (.ifCond .eq 2, 3), (.iload 2, 1), (.i2l, 1), (.ldc2_w 0, 1), (.ldc2_w 2, 3), (.invokeinterface 140 3, 3), (.ifCond .ne 1, 3), (.iload 2, 1), (.i2l, 1), (.ldc2_w 100, 3), (.sipush (99), 2), (.iload 1, 1), (.iadd, 1), (.i2l, 1), (.invokeinterface 140 3, 3), (.ifCond .eq 2, 3), (.goto 1, 0)]),
  (41, [(.sipush (0), 1), (.goto 3, 3)]),
  (45, [(.sipush (1), 1), (.goto 3, 0)]),
  (46, [(.putfield 228, 3), (.aload 0, 1), (.getfield 228, 3), (.ifCond .le 4, 3), (.sipush (0), 1), (.ireturn, 1)]),
  (58, [(.iload 2, 1), (.ifCond .ne 5, 3), (.aload 0, 1), (.iload 1, 1), (.multianewarray 223 39, 3), (.ireturn, 1)]),
  (68, [(.aload 0, 1), (.multianewarray 168 23, 3), (.sipush (0), 1), (.istore 3, 1), (.aload 0, 1), (.multianewarray 160 23, 3), (.istore 4, 2), (.sipush (0), 1), (.istore 5, 2), (.goto 6, 0)]),
  (83, [(.iload 5, 2), (.iload 1, 1), (.if_icmp .ge 8, 3), (.aload 0, 1), (.multianewarray 169 23, 3), (.istore 6, 2), (.iload 2, 1), (.sipush (100), 2), (.iload 5, 2), (.iadd, 1), (.if_icmp .ne 7, 3), (.iload 6, 2), (.ireturn, 1)]),
  (107, [(.iload 3, 1), (.iload 6, 2), (.ior, 1), (.istore 3, 1), (.iload 4, 2), (.iload 6, 2), (.iand, 1), (.istore 4, 2), (.iinc 5 (1), 3), (.goto 6, 3)]),
  (125, [(.iload 2, 1), (.sipush (1), 1), (.if_icmp .ne 9, 3), (.aload 0, 1), (.multianewarray 160 23, 3), (.iload 3, 1), (.sipush (-1), 1), (.ixor, 1), (.iand, 1), (.goto 10, 3)]),
  (141, [(.iload 4, 2), (.goto 10, 0)]),
  (143, [(.ireturn, 1)])]
def mX7_ahead : ac_M := (yX7_ahead, cX7_ahead, 7, (some .int), 7, 0, 2, (0, 0), [], bX7_ahead, [1673, 83, 1671, 1672], [])
def bX7_common : List (Nat × ac_I) := [(0, [(.iload 1, 1), (.ifCond .ne 1, 3), (.iload 0, 1), (.goto 2, 3)]),
  (8, [(.iload 1, 1), (.iload 0, 1), (.iload 1, 1), (.irem, 1), (.invokeinterface 225 2, 3), (.goto 2, 0)]),
  (15, [(.ireturn, 1)])]
def mX7_common : ac_M := (yX7_common, cX7_common, 2, (some .int), 7, 1, 2, (0, 0), [], bX7_common, [1691, 83, 1690], [])
def bX7_rhythm : List (Nat × ac_I) := [(0, [(.sipush (1), 1), (.istore 1, 1), (.sipush (0), 1), (.istore 2, 1), (.goto 1, 0)]),
  (4, [(.iload 2, 1), (.aload 0, 1), (.multianewarray 159 23, 3), (.if_icmp .ge 3, 3), (.aload 0, 1), (.iload 2, 1), (.sipush (0), 1), (.multianewarray 163 55, 3), (.sipush (6), 2), (.if_icmp .ne 2, 3), (.iload 1, 1), (.iload 1, 1), (.aload 0, 1), (.iload 2, 1), (.sipush (1), 1), (.multianewarray 163 55, 3), (.invokeinterface 225 2, 3), (.idiv, 1), (.aload 0, 1), (.iload 2, 1), (.sipush (1), 1), (.multianewarray 163 55, 3), (.imul, 1), (.istore 1, 1), (.goto 2, 0)]),
  (43, [(.iinc 2 (1), 3), (.goto 1, 3)]),
  (49, [(.iload 1, 1), (.ireturn, 1)])]
def mX7_rhythm : ac_M := (yX7_rhythm, cX7_rhythm, 3, (some .int), 7, 0, 0, (0, 0), [], bX7_rhythm, [1688, 83, 1687, 71], [])
def bX7_ring : List (Nat × ac_I) := [(0, [(.aload 0, 1), (.iload 1, 1), (.i2l, 1), (.ldc2_w 0, 1), (.ldc2_w 1, 1), (.invokeinterface 140 3, 3), (.ifCond .eq 1, 3), (.sipush (0), 1), (.goto 2, 3)]),
  (15, [(.sipush (1), 1), (.goto 2, 0)]),
  (16, [(.putfield 228, 3), (.aload 0, 1), (.getfield 228, 3), (.ifCond .le 3, 3), (.sipush (0), 1), (.ireturn, 1)]),
  (28, [(.aload 0, 1), (.multianewarray 226 23, 3), (.istore 2, 1), (.sipush (0), 1), (.istore 3, 1), (.goto 4, 0)]),
  (35, [(.iload 3, 1), (.aload 0, 1), (.multianewarray 159 23, 3), (.if_icmp .ge 6, 3), (.aload 0, 1), (.iload 3, 1), (.sipush (0), 1), (.multianewarray 163 55, 3), (.sipush (10), 2), (.if_icmp .ne 5, 3), (.sipush (-1), 1), (.ireturn, 1)]),
  (56, [(.iinc 3 (1), 3), (.goto 4, 3)]),
  (62, [(.aload 0, 1), (.getfield 248, 3), (.sipush (0), 1), (.aload 0, 1), (.multianewarray 171 23, 3), (.iastore, 1), (.aload 0, 1), (.multianewarray 168 23, 3), (.sipush (1), 1), (.istore 3, 1), (.goto 7, 0)]),
  (78, [(.iload 3, 1), (.sipush (400), 3), (.if_icmp .gt 13, 3), (.aload 0, 1), (.getfield 248, 3), (.iload 3, 1), (.aload 0, 1), (.multianewarray 169 23, 3), (.iastore, 1), (.sipush (0), 1), (.istore 4, 2), (.goto 8, 0)]),
  (98, [(.iload 4, 2), (.iload 3, 1), (.if_icmp .ge 12, 3), (.aload 0, 1), (.getfield 248, 3), (.iload 4, 2), (.iaload, 1), (.aload 0, 1), (.getfield 248, 3), (.iload 3, 1), (.iaload, 1), (.if_icmp .ne 11, 3), (.iload 3, 1), (.iload 4, 2), (.isub, 1), (.iload 2, 1), (.irem, 1), (.ifCond .ne 11, 3), (.iload 1, 1), (.ifCond .ne 9, 3), (.iload 3, 1), (.iload 4, 2), (.isub, 1), (.goto 10, 3)]),
  (140, [(.iload 4, 2), (.goto 10, 0)]),
  (142, [(.ireturn, 1)]),
  (143, [(.iinc 4 (1), 3), (.goto 8, 3)]),
  (149, [(.iinc 3 (1), 3), (.goto 7, 3)]),
  (155, [(.sipush (-1), 1), (.ireturn, 1)])]
def mX7_ring : ac_M := (yX7_ring, cX7_ring, 5, (some .int), 7, 0, 1, (0, 0), [], bX7_ring, [1684, 83, 1682, 1683], [])
def bX7_worth : List (Nat × ac_I) := [(0, [(.aload 0, 1), (.aload 0, 1), (.iload 1, 1), (.multianewarray 161 39, 3), (.ifCond .ne 1, 3), (.sipush (1), 1), (.goto 3, 3)]),
  (13, [(.iload 2, 1), (.i2l, 1), (.ldc2_w 1, 1), (.ldc2_w 60, 3), (.invokeinterface 140 3, 3), (.ifCond .eq 2, 3), (.sipush (0), 1), (.goto 3, 3)]),
  (29, [(.sipush (2), 1), (.goto 3, 0)]),
  (30, [(.putfield 228, 3), (.aload 0, 1), (.getfield 228, 3), (.ifCond .le 4, 3), (.sipush (0), 1), (.ireturn, 1)]),
  (42, [(.aload 0, 1), (.iload 2, 1), (.multianewarray 223 39, 3), (.istore 3, 1), (.aload 0, 1), (.iload 1, 1), (.sipush (0), 1), (.multianewarray 163 55, 3), (.istore 4, 2), (.aload 0, 1), (.iload 1, 1), (.sipush (3), 1), (.multianewarray 163 55, 3), (.istore 5, 2), (.aload 0, 1), (.getfield 224, 3), (.sipush (6), 2), (.sipush (4), 1), (.iload 1, 1), (.imul, 1), (.iadd, 1), (.sipush (0), 1), (.iadd, 1), (.sipush (1), 1), (.iastore, 1), (.aload 0, 1), (.getfield 224, 3), (.sipush (6), 2), (.sipush (4), 1), (.iload 1, 1), (.imul, 1), (.iadd, 1), (.sipush (3), 1), (.iadd, 1), (.sipush (0), 1), (.iastore, 1), (.aload 0, 1), (.iload 2, 1), (.multianewarray 223 39, 3), (.istore 6, 2), (.aload 0, 1), (.getfield 224, 3), (.sipush (6), 2), (.sipush (4), 1), (.iload 1, 1), (.imul, 1), (.iadd, 1), (.sipush (0), 1), (.iadd, 1), (.iload 4, 2), (.iastore, 1), (.aload 0, 1), (.getfield 224, 3), (.sipush (6), 2), (.sipush (4), 1), (.iload 1, 1), (.imul, 1), (.iadd, 1), (.sipush (3), 1), (.iadd, 1), (.iload 5, 2), (.iastore, 1), (.iload 3, 1), (.iload 6, 2), (.isub, 1), (.ireturn, 1)])]
def mX7_worth : ac_M := (yX7_worth, cX7_worth, 7, (some .int), 7, 0, 2, (0, 0), [], bX7_worth, [1695, 83, 1693, 1694], [])
def bX7_bestQuota : List (Nat × ac_I) := [(0, [(.aload 0, 1), (.sipush (0), 1), (.putfield 228, 3), (.iload 1, 1), (.i2l, 1), (.ldc2_w 1, 1), (.ldc2_w 60, 3), (.invokeinterface 140 3, 3), (.ifCond .ne 1, 3), (.aload 0, 1), (.sipush (1), 1), (.multianewarray 139 39, 3), (.ireturn, 1)]),
  (23, [(.aload 0, 1), (.getfield 224, 3), (.sipush (1), 1), (.iaload, 1), (.istore 2, 1), (.sipush (-1), 1), (.istore 3, 1), (.sipush (-1), 1), (.istore 4, 2), (.sipush (1), 1), (.istore 5, 2), (.goto 2, 0)]),
  (38, [(.iload 5, 2), (.sipush (12), 2), (.if_icmp .gt 5, 3), (.aload 0, 1), (.getfield 224, 3), (.sipush (1), 1), (.iload 5, 2), (.iastore, 1), (.aload 0, 1), (.iload 1, 1), (.multianewarray 223 39, 3), (.istore 6, 2), (.iload 6, 2), (.iload 4, 2), (.if_icmp .gt 3, 3), (.goto 4, 3)]),
  (70, [(.iload 5, 2), (.istore 3, 1), (.iload 6, 2), (.istore 4, 2), (.goto 4, 0)]),
  (77, [(.iinc 5 (1), 3), (.goto 2, 3)]),
  (83, [(.aload 0, 1), (.getfield 224, 3), (.sipush (1), 1), (.iload 2, 1), (.iastore, 1), (.iload 3, 1), (.ireturn, 1)])]
def mX7_bestQuota : ac_M := (yX7_bestQuota, cX7_bestQuota, 7, (some .int), 7, 0, 1, (0, 0), [], bX7_bestQuota, [1699, 83, 1697, 1698], [])
def bX7_isRuled : List (Nat × ac_I) := [(0, [(.iload 0, 1), (.sipush (4), 1), (.if_icmp .lt 1, 3), (.iload 0, 1), (.sipush (10), 2), (.if_icmp .ne 3, 3), (.goto 1, 0)]),
  (11, [(.iload 1, 1), (.ifCond .ne 2, 3), (.sipush (1), 1), (.goto 8, 3)]),
  (19, [(.sipush (0), 1), (.goto 8, 3)]),
  (23, [(.iload 0, 1), (.sipush (6), 2), (.if_icmp .ne 5, 3), (.iload 1, 1), (.ifCond .le 4, 3), (.sipush (1), 1), (.goto 8, 3)]),
  (37, [(.sipush (0), 1), (.goto 8, 3)]),
  (41, [(.iload 0, 1), (.sipush (9), 2), (.if_icmp .ne 6, 3), (.iload 1, 1), (.sipush (6), 2), (.if_icmp .gt 7, 3), (.goto 6, 0)]),
  (53, [(.sipush (1), 1), (.goto 8, 3)]),
  (57, [(.sipush (0), 1), (.goto 8, 0)]),
  (58, [(.ireturn, 1)])]
def mX7_isRuled : ac_M := (yX7_isRuled, cX7_isRuled, 2, (some .boolean), 7, 1, 2, (0, 0), [], bX7_isRuled, [1707, 83, 1706], [])
def ms8 : List ac_M := [mX7_waysGo, mX7_waysOf, mX7_odds, mX7_bestOdds, mX7_chances, mX7_hope, mX7_metAhead, mX7_ahead, mX7_common, mX7_rhythm, mX7_ring, mX7_worth, mX7_bestQuota, mX7_isRuled]
def bX7_bestRule : List (Nat × ac_I) := [(0, [(.aload 0, 1), (.aload 0, 1), (.iload 1, 1), (.multianewarray 161 39, 3), (.ifCond .ne 1, 3), (.sipush (1), 1), (.goto 3, 3)]),
  (13, [(.iload 2, 1), (.i2l, 1), (.ldc2_w 1, 1), (.ldc2_w 30, 3), (.invokeinterface 140 3, 3), (.ifCond .eq 2, 3), (.iload 3, 1), (.i2l, 1), (.ldc2_w 0, 1), (.ldc2_w 2, 3), (.invokeinterface 140 3, 3), (.ifCond .eq 2, 3), (.sipush (0), 1), (.goto 3, 3)]),
  (41, [(.sipush (2), 1), (.goto 3, 0)]),
  (42, [(.putfield 228, 3), (.aload 0, 1), (.getfield 228, 3), (.ifCond .le 4, 3), (.sipush (0), 1), (.ireturn, 1)]),
  (54, [(.sipush (6), 2), (.sipush (4), 1), (.iload 1, 1), (.imul, 1), (.iadd, 1), (.istore 4, 2), (.aload 0, 1), (.getfield 224, 3), (.iload 4, 2), (.sipush (0), 1), (.iadd, 1), (.iaload, 1), (.istore 5, 2), (.aload 0, 1), (.getfield 224, 3), (.iload 4, 2), (.sipush (1), 1), (.iadd, 1), (.iaload, 1), (.istore 6, 2), (.sipush (-1), 1), (.istore 7, 2), (.sipush (0), 1), (.istore 8, 2), (.sipush (0), 1), (.istore 9, 2), (.sipush (0), 1), (.istore 10, 2), (.goto 5, 0)]),
  (96, [(.iload 10, 2), (.sipush (10), 2), (.if_icmp .gt 13, 3), (.sipush (0), 1), (.istore 11, 2), (.goto 6, 0)]),
  (106, [(.iload 11, 2), (.sipush (12), 2), (.if_icmp .gt 12, 3), (.iload 10, 2), (.iload 11, 2), (.invokeinterface 230 2, 3), (.ifCond .ne 7, 3), (.goto 11, 3)]),
  (126, [(.aload 0, 1), (.getfield 224, 3), (.iload 4, 2), (.sipush (0), 1), (.iadd, 1), (.iload 10, 2), (.iastore, 1), (.aload 0, 1), (.getfield 224, 3), (.iload 4, 2), (.sipush (1), 1), (.iadd, 1), (.iload 11, 2), (.iastore, 1), (.aload 0, 1), (.multianewarray 168 23, 3), (.sipush (0), 1), (.istore 12, 2), (.sipush (0), 1), (.istore 13, 2), (.goto 8, 0)]),
  (158, [(.iload 13, 2), (.iload 2, 1), (.if_icmp .ge 9, 3), (.iload 12, 2), (.aload 0, 1), (.aload 0, 1), (.multianewarray 169 23, 3), (.iload 1, 1), (.multianewarray 165 55, 3), (.iadd, 1), (.istore 12, 2), (.iinc 13 (1), 3), (.goto 8, 3)]),
  (184, [(.iload 7, 2), (.sipush (-1), 1), (.if_icmp .eq 10, 3), (.iload 12, 2), (.iload 9, 2), (.if_icmp .gt 10, 3), (.goto 11, 3)]),
  (200, [(.iload 10, 2), (.istore 7, 2), (.iload 11, 2), (.istore 8, 2), (.iload 12, 2), (.istore 9, 2), (.goto 11, 0)]),
  (212, [(.iinc 11 (1), 3), (.goto 6, 3)]),
  (218, [(.iinc 10 (1), 3), (.goto 5, 3)]),
  (224, [(.aload 0, 1), (.getfield 224, 3), (.iload 4, 2), (.sipush (0), 1), (.iadd, 1), (.iload 5, 2), (.iastore, 1), (.aload 0, 1), (.getfield 224, 3), (.iload 4, 2), (.sipush (1), 1), (.iadd, 1), (.iload 6, 2), (.iastore, 1), (.iload 3, 1), (.ifCond .ne 14, 3), (.iload 7, 2), (.goto 16, 3)]),
  (255, [(.iload 3, 1), (.sipush (1), 1), (.if_icmp .ne 15, 3), (.iload 8, 2), (.goto 16, 3)]),
  (265, [(.iload 9, 2), (.goto 16, 0)]),
  (267, [(.ireturn, 1)])]
def mX7_bestRule : ac_M := (yX7_bestRule, cX7_bestRule, 14, (some .int), 7, 0, 3, (0, 0), [], bX7_bestRule, [1703, 83, 1701, 1702], [])
def bX7_streak : List (Nat × ac_I) := [(0, [(.aload 0, 1), (.iload 1, 1), (.i2l, 1), (.ldc2_w 0, 1), (.ldc2_w 1, 1), (.invokeinterface 140 3, 3), (.ifCond .eq 1, 3), (.sipush (0), 1), (.goto 2, 3)]),
  (15, [(.sipush (1), 1), (.goto 2, 0)]),
  (16, [(.putfield 228, 3), (.aload 0, 1), (.getfield 228, 3), (.ifCond .le 3, 3), (.sipush (0), 1), (.ireturn, 1)]),
  (28, [(.sipush (0), 1), (.istore 2, 1), (.sipush (-1), 1), (.istore 3, 1), (.sipush (0), 1), (.istore 4, 2), (.sipush (0), 1), (.istore 5, 2), (.goto 4, 0)]),
  (38, [(.iload 5, 2), (.aload 0, 1), (.getfield 224, 3), (.sipush (5), 1), (.iaload, 1), (.if_icmp .ge 9, 3), (.aload 0, 1), (.aload 0, 1), (.getfield 224, 3), (.sipush (54), 2), (.iload 5, 2), (.iadd, 1), (.iaload, 1), (.multianewarray 164 39, 3), (.ifCond .eq 5, 3), (.iload 4, 2), (.sipush (1), 1), (.iadd, 1), (.goto 6, 3)]),
  (73, [(.sipush (0), 1), (.goto 6, 0)]),
  (74, [(.istore 4, 2), (.iload 4, 2), (.iload 2, 1), (.if_icmp .gt 7, 3), (.goto 8, 3)]),
  (85, [(.iload 4, 2), (.istore 2, 1), (.iload 5, 2), (.iload 4, 2), (.isub, 1), (.sipush (1), 1), (.iadd, 1), (.istore 3, 1), (.goto 8, 0)]),
  (96, [(.iinc 5 (1), 3), (.goto 4, 3)]),
  (102, [(.iload 1, 1), (.ifCond .ne 10, 3), (.iload 2, 1), (.goto 11, 3)]),
  (110, [(.iload 3, 1), (.goto 11, 0)]),
  (111, [(.ireturn, 1)])]
def mX7_streak : ac_M := (yX7_streak, cX7_streak, 6, (some .int), 7, 0, 1, (0, 0), [], bX7_streak, [1711, 83, 1709, 1710], [])
def bX7_tally : List (Nat × ac_I) := [(0, [(.aload 0, 1), (.sipush (0), 1), (.putfield 228, 3), (.sipush (0), 1), (.istore 2, 1), (.sipush (0), 1), (.istore 3, 1), (.goto 1, 0)]),
  (9, [(.iload 3, 1), (.aload 0, 1), (.getfield 224, 3), (.sipush (5), 1), (.iaload, 1), (.if_icmp .ge 4, 3), (.iload 2, 1), (.aload 0, 1), (.getfield 224, 3), (.sipush (54), 2), (.iload 3, 1), (.iadd, 1), (.iaload, 1), (.invokeinterface 142 1, 3), (.iload 1, 1), (.if_icmp .ne 2, 3), (.sipush (1), 1), (.goto 3, 3)]),
  (40, [(.sipush (0), 1), (.goto 3, 0)]),
  (41, [(.iadd, 1), (.istore 2, 1), (.iinc 3 (1), 3), (.goto 1, 3)]),
  (49, [(.iload 2, 1), (.ireturn, 1)])]
def mX7_tally : ac_M := (yX7_tally, cX7_tally, 4, (some .int), 7, 0, 1, (0, 0), [], bX7_tally, [1715, 83, 1713, 1714], [])
def bX7_bothCame : List (Nat × ac_I) := [(0, [(.sipush (0), 1), (.istore 3, 1), (.sipush (0), 1), (.istore 4, 2), (.goto 1, 0)]),
  (5, [(.iload 4, 2), (.aload 0, 1), (.getfield 224, 3), (.sipush (5), 1), (.iaload, 1), (.if_icmp .ge 4, 3), (.iload 3, 1), (.aload 0, 1), (.getfield 224, 3), (.sipush (54), 2), (.iload 4, 2), (.iadd, 1), (.iaload, 1), (.iload 1, 1), (.invokeinterface 141 2, 3), (.ifCond .eq 2, 3), (.aload 0, 1), (.getfield 224, 3), (.sipush (54), 2), (.iload 4, 2), (.iadd, 1), (.iaload, 1), (.iload 2, 1), (.invokeinterface 141 2, 3), (.ifCond .eq 2, 3), (.sipush (1), 1), (.goto 3, 3)]),
  (55, [(.sipush (0), 1), (.goto 3, 0)]),
  (56, [(.iadd, 1), (.istore 3, 1), (.iinc 4 (1), 3), (.goto 1, 3)]),
  (64, [(.iload 3, 1), (.ireturn, 1)])]
def mX7_bothCame : ac_M := (yX7_bothCame, cX7_bothCame, 5, (some .int), 7, 0, 2, (0, 0), [], bX7_bothCame, [1723, 83, 1722, 72], [])
def bX7_together : List (Nat × ac_I) := [(0, [(.aload 0, 1), (.sipush (0), 1), (.putfield 228, 3), (.aload 0, 1), (.iload 1, 1), (.multianewarray 161 39, 3), (.ifCond .eq 1, 3), (.aload 0, 1), (.iload 2, 1), (.multianewarray 161 39, 3), (.ifCond .eq 1, 3), (.aload 0, 1), (.iload 1, 1), (.iload 2, 1), (.multianewarray 234 55, 3), (.goto 2, 3)]),
  (30, [(.aload 0, 1), (.sipush (1), 1), (.multianewarray 139 39, 3), (.goto 2, 0)]),
  (35, [(.ireturn, 1)])]
def mX7_together : ac_M := (yX7_together, cX7_together, 3, (some .int), 7, 0, 2, (0, 0), [], bX7_together, [1719, 83, 1717, 1718], [])
def bX7_friends : List (Nat × ac_I) := [(0, [(.aload 0, 1), (.sipush (0), 1), (.putfield 228, 3), (.sipush (-1), 1), (.istore 1, 1), (.sipush (0), 1), (.istore 2, 1), (.sipush (0), 1), (.istore 3, 1), (.goto 1, 0)]),
  (11, [(.iload 3, 1), (.aload 0, 1), (.multianewarray 159 23, 3), (.if_icmp .ge 6, 3), (.iload 3, 1), (.sipush (1), 1), (.iadd, 1), (.istore 4, 2), (.goto 2, 0)]),
  (24, [(.iload 4, 2), (.aload 0, 1), (.multianewarray 159 23, 3), (.if_icmp .ge 5, 3), (.aload 0, 1), (.iload 3, 1), (.iload 4, 2), (.multianewarray 234 55, 3), (.iload 2, 1), (.if_icmp .gt 3, 3), (.goto 4, 3)]),
  (47, [(.sipush (100), 2), (.iload 3, 1), (.imul, 1), (.iload 4, 2), (.iadd, 1), (.istore 1, 1), (.aload 0, 1), (.iload 3, 1), (.iload 4, 2), (.multianewarray 234 55, 3), (.istore 2, 1), (.goto 4, 0)]),
  (63, [(.iinc 4 (1), 3), (.goto 2, 3)]),
  (69, [(.iinc 3 (1), 3), (.goto 1, 3)]),
  (75, [(.iload 1, 1), (.ireturn, 1)])]
def mX7_friends : ac_M := (yX7_friends, cX7_friends, 5, (some .int), 7, 0, 0, (0, 0), [], bX7_friends, [1727, 83, 1725, 1726], [])
def bX7_doubts : List (Nat × ac_I) := [(0, [(.aload 0, 1), (.aload 0, 1), (.iload 1, 1), (.multianewarray 161 39, 3), (.ifCond .eq 1, 3), (.aload 0, 1), (.iload 2, 1), (.multianewarray 181 39, 3), (.ifCond .eq 1, 3), (.sipush (0), 1), (.goto 2, 3)]),
  (21, [(.sipush (1), 1), (.goto 2, 0)]),
  (22, [(.putfield 228, 3), (.aload 0, 1), (.getfield 228, 3), (.ifCond .le 3, 3), (.sipush (0), 1), (.ireturn, 1)]),
  (34, [(.aload 0, 1), (.iload 1, 1), (.sipush (0), 1), (.multianewarray 163 55, 3), (.sipush (7), 2), (.if_icmp .eq 4, 3), (.aload 0, 1), (.iload 1, 1), (.sipush (0), 1), (.multianewarray 163 55, 3), (.sipush (8), 2), (.if_icmp .eq 4, 3), (.sipush (-1), 1), (.ireturn, 1)]),
  (58, [(.aload 0, 1), (.getfield 224, 3), (.sipush (54), 2), (.iload 2, 1), (.iadd, 1), (.iaload, 1), (.istore 3, 1), (.aload 0, 1), (.iload 1, 1), (.iload 3, 1), (.sipush (0), 1), (.multianewarray 174 71, 3), (.istore 4, 2), (.sipush (0), 1), (.istore 5, 2), (.sipush (1), 1), (.istore 6, 2), (.sipush (0), 1), (.istore 7, 2), (.goto 5, 0)]),
  (86, [(.iload 7, 2), (.iload 4, 2), (.if_icmp .gt 12, 3), (.aload 0, 1), (.iload 1, 1), (.sipush (0), 1), (.multianewarray 163 55, 3), (.sipush (7), 2), (.if_icmp .ne 7, 3), (.iload 7, 2), (.aload 0, 1), (.iload 1, 1), (.sipush (1), 1), (.multianewarray 163 55, 3), (.if_icmp .ge 6, 3), (.sipush (1), 1), (.goto 9, 3)]),
  (119, [(.sipush (0), 1), (.goto 9, 3)]),
  (123, [(.iload 7, 2), (.aload 0, 1), (.iload 1, 1), (.sipush (1), 1), (.multianewarray 163 55, 3), (.if_icmp .ne 8, 3), (.sipush (1), 1), (.goto 9, 3)]),
  (138, [(.sipush (0), 1), (.goto 9, 0)]),
  (139, [(.istore 8, 2), (.iload 5, 2), (.iload 8, 2), (.iload 3, 1), (.iload 1, 1), (.invokeinterface 141 2, 3), (.if_icmp .ne 10, 3), (.iload 6, 2), (.goto 11, 3)]),
  (158, [(.sipush (0), 1), (.goto 11, 0)]),
  (159, [(.iadd, 1), (.istore 5, 2), (.iload 6, 2), (.iload 4, 2), (.iload 7, 2), (.isub, 1), (.imul, 1), (.iload 7, 2), (.sipush (1), 1), (.iadd, 1), (.idiv, 1), (.istore 6, 2), (.iinc 7 (1), 3), (.goto 5, 3)]),
  (183, [(.iload 5, 2), (.ireturn, 1)])]
def mX7_doubts : ac_M := (yX7_doubts, cX7_doubts, 9, (some .int), 7, 0, 2, (0, 0), [], bX7_doubts, [1731, 83, 1729, 1730], [])
def bX7_guessOf : List (Nat × ac_I) := [(0, [(.sipush (0), 1), (.istore 3, 1), (.sipush (0), 1), (.istore 4, 2), (.sipush (0), 1), (.istore 5, 2), (.sipush (0), 1), (.istore 6, 2), (.goto 1, 0)]),
  (11, [(.iload 6, 2), (.iload 2, 1), (.if_icmp .ge 8, 3), (.sipush (0), 1), (.istore 7, 2), (.aload 0, 1), (.getfield 224, 3), (.sipush (54), 2), (.iload 6, 2), (.iadd, 1), (.iaload, 1), (.invokeinterface 142 1, 3), (.istore 8, 2), (.sipush (0), 1), (.istore 9, 2), (.goto 2, 0)]),
  (38, [(.iload 9, 2), (.iload 2, 1), (.if_icmp .ge 5, 3), (.iload 7, 2), (.aload 0, 1), (.getfield 224, 3), (.sipush (54), 2), (.iload 9, 2), (.iadd, 1), (.iaload, 1), (.invokeinterface 142 1, 3), (.iload 8, 2), (.if_icmp .ne 3, 3), (.sipush (1), 1), (.goto 4, 3)]),
  (68, [(.sipush (0), 1), (.goto 4, 0)]),
  (69, [(.iadd, 1), (.istore 7, 2), (.iinc 9 (1), 3), (.goto 2, 3)]),
  (78, [(.iload 3, 1), (.iload 8, 2), (.iadd, 1), (.istore 3, 1), (.iload 7, 2), (.iload 5, 2), (.if_icmp .lt 7, 3), (.iload 7, 2), (.iload 5, 2), (.if_icmp .ne 6, 3), (.iload 8, 2), (.iload 4, 2), (.if_icmp .lt 6, 3), (.goto 7, 3)]),
  (107, [(.iload 8, 2), (.istore 4, 2), (.iload 7, 2), (.istore 5, 2), (.goto 7, 0)]),
  (115, [(.iinc 6 (1), 3), (.goto 1, 3)]),
  (121, [(.iload 1, 1), (.ifCond .ne 9, 3), (.aload 0, 1), (.getfield 224, 3), (.sipush (54), 2), (.iload 2, 1), (.iadd, 1), (.sipush (1), 1), (.isub, 1), (.iaload, 1), (.invokeinterface 142 1, 3), (.goto 12, 3)]),
  (142, [(.iload 1, 1), (.sipush (1), 1), (.if_icmp .ne 10, 3), (.iload 3, 1), (.iload 2, 1), (.idiv, 1), (.goto 12, 3)]),
  (153, [(.iload 1, 1), (.sipush (2), 1), (.if_icmp .ne 11, 3), (.iload 4, 2), (.goto 12, 3)]),
  (163, [(.aload 0, 1), (.getfield 224, 3), (.sipush (1), 1), (.iaload, 1), (.goto 12, 0)]),
  (169, [(.ireturn, 1)])]
def mX7_guessOf : ac_M := (yX7_guessOf, cX7_guessOf, 10, (some .int), 7, 0, 2, (0, 0), [], bX7_guessOf, [1739, 83, 1738, 73], [])
def bX7_cook : List (Nat × ac_I) := [(0, [(.aload 0, 1), (.sipush (0), 1), (.putfield 228, 3), (.iload 1, 1), (.i2l, 1), (.ldc2_w 0, 1), (.ldc2_w 3, 3), (.invokeinterface 140 3, 3), (.ifCond .ne 1, 3), (.aload 0, 1), (.sipush (1), 1), (.multianewarray 139 39, 3), (.ireturn, 1)]),
  (23, [(.sipush (0), 1), (.istore 2, 1), (.sipush (1), 1), (.istore 3, 1), (.goto 2, 0)]),
  (27, [(.iload 3, 1), (.aload 0, 1), (.getfield 224, 3), (.sipush (5), 1), (.iaload, 1), (.if_icmp .ge 3, 3), (.iload 2, 1), (.aload 0, 1), (.getfield 224, 3), (.sipush (54), 2), (.iload 3, 1), (.iadd, 1), (.iaload, 1), (.invokeinterface 142 1, 3), (.aload 0, 1), (.iload 1, 1), (.iload 3, 1), (.multianewarray 238 55, 3), (.isub, 1), (.invokeinterface 252 1, 3), (.iadd, 1), (.istore 2, 1), (.iinc 3 (1), 3), (.goto 2, 3)]),
  (68, [(.iload 2, 1), (.ireturn, 1)])]
def mX7_cook : ac_M := (yX7_cook, cX7_cook, 4, (some .int), 7, 0, 1, (0, 0), [], bX7_cook, [1735, 83, 1733, 1734], [])
def bX7_guess : List (Nat × ac_I) := [(0, [(.aload 0, 1), (.sipush (0), 1), (.putfield 228, 3), (.iload 1, 1), (.i2l, 1), (.ldc2_w 0, 1), (.ldc2_w 3, 3), (.invokeinterface 140 3, 3), (.ifCond .ne 1, 3), (.aload 0, 1), (.sipush (1), 1), (.multianewarray 139 39, 3), (.ireturn, 1)]),
  (23, [(.aload 0, 1), (.getfield 224, 3), (.sipush (5), 1), (.iaload, 1), (.ifCond .ne 2, 3), (.sipush (-1), 1), (.goto 3, 3)]),
  (36, [(.aload 0, 1), (.iload 1, 1), (.aload 0, 1), (.getfield 224, 3), (.sipush (5), 1), (.iaload, 1), (.multianewarray 238 55, 3), (.goto 3, 0)]),
  (47, [(.ireturn, 1)])]
def mX7_guess : ac_M := (yX7_guess, cX7_guess, 2, (some .int), 7, 0, 1, (0, 0), [], bX7_guess, [1744, 83, 1742, 1743], [])
def bX7_isTray : List (Nat × ac_I) := [(0, [(.iload 0, 1), (.i2l, 1), (.ldc2_w 0, 1), (.ldc2_w 3, 3), (.invokeinterface 140 3, 3), (.ireturn, 1)])]
def mX7_isTray : ac_M := (yX7_isTray, cX7_isTray, 1, (some .boolean), 7, 1, 1, (0, 0), [], bX7_isTray, [1533, 83, 1532], [])
def bX7_tray : List (Nat × ac_I) := [(0, [(.aload 0, 1), (.iload 1, 1), (.invokeinterface 241 1, 3), (.ifCond .ne 1, 3), (.sipush (1), 1), (.goto 4, 3)]),
  (12, [(.iload 2, 1), (.i2l, 1), (.ldc2_w 0, 1), (.ldc2_w 3, 3), (.invokeinterface 140 3, 3), (.ifCond .eq 2, 3), (.iload 3, 1), (.i2l, 1), (.ldc2_w 0, 1), (.ldc2_w 60, 3), (.invokeinterface 140 3, 3), (.ifCond .ne 3, 3), (.goto 2, 0)]),
  (36, [(.sipush (2), 1), (.goto 4, 3)]),
  (40, [(.sipush (0), 1), (.goto 4, 0)]),
  (41, [(.putfield 228, 3), (.aload 0, 1), (.getfield 228, 3), (.ifCond .le 5, 3), (.return_, 1)]),
  (52, [(.aload 0, 1), (.getfield 249, 3), (.iload 1, 1), (.iload 2, 1), (.iastore, 1), (.aload 0, 1), (.getfield 250, 3), (.iload 1, 1), (.iload 3, 1), (.iastore, 1), (.sipush (0), 1), (.istore 4, 2), (.goto 6, 0)]),
  (69, [(.iload 4, 2), (.sipush (60), 2), (.if_icmp .ge 7, 3), (.aload 0, 1), (.getfield 251, 3), (.sipush (60), 2), (.iload 1, 1), (.imul, 1), (.iload 4, 2), (.iadd, 1), (.ldc2_w 0, 1), (.lastore, 1), (.iinc 4 (1), 3), (.goto 6, 3)]),
  (95, [(.return_, 1)])]
def mX7_tray : ac_M := (yX7_tray, cX7_tray, 5, none, 7, 0, 3, (0, 0), [], bX7_tray, [1748, 83, 1746, 1747], [])
def bX7_cut : List (Nat × ac_I) := [(0, [(.sipush (64), 2), (.sipush (8), 2), (.aload 0, 1), (.getfield 249, 3), (.iload 1, 1), (.iaload, 1), (.ishl, 1), (.isub, 1), (.istore 5, 2), (.aload 0, 1), (.getfield 251, 3), (.sipush (60), 2), (.iload 1, 1), (.imul, 1), (.iload 2, 1), (.iadd, 1), (.lload 3, 1), (.iload 5, 2), (.lshl, 1), (.iload 5, 2), (.lshr, 1), (.lastore, 1), (.aload 0, 1), (.getfield 251, 3), (.sipush (60), 2), (.iload 1, 1), (.imul, 1), (.iload 2, 1), (.iadd, 1), (.laload, 1), (.lreturn, 1)])]
def mX7_cut : ac_M := (yX7_cut, cX7_cut, 6, (some .long), 7, 0, 3, (0, 0), [], bX7_cut, [1756, 83, 1755, 74], [])
def bX7_write : List (Nat × ac_I) := [(0, [(.aload 0, 1), (.aload 0, 1), (.iload 1, 1), (.multianewarray 188 39, 3), (.putfield 228, 3), (.aload 0, 1), (.getfield 228, 3), (.ifCond .le 1, 3), (.ldc2_w 0, 1), (.lreturn, 1)]),
  (18, [(.iload 2, 1), (.i2l, 1), (.ldc2_w 0, 1), (.aload 0, 1), (.getfield 250, 3), (.iload 1, 1), (.iaload, 1), (.sipush (1), 1), (.isub, 1), (.i2l, 1), (.invokeinterface 140 3, 3), (.ifCond .eq 2, 3), (.aload 0, 1), (.iload 1, 1), (.iload 2, 1), (.lload 3, 1), (.multianewarray 243 71, 3), (.goto 3, 3)]),
  (46, [(.aload 0, 1), (.sipush (3), 1), (.multianewarray 139 39, 3), (.i2l, 1), (.goto 3, 0)]),
  (52, [(.lreturn, 1)])]
def mX7_write : ac_M := (yX7_write, cX7_write, 5, (some .long), 7, 0, 3, (0, 0), [], bX7_write, [1752, 83, 1750, 1751], [])
def bX7_pour : List (Nat × ac_I) := [(0, [(.aload 0, 1), (.aload 0, 1), (.iload 1, 1), (.multianewarray 188 39, 3), (.putfield 228, 3), (.aload 0, 1), (.getfield 228, 3), (.ifCond .le 1, 3), (.sipush (0), 1), (.ireturn, 1)]),
  (18, [(.aload 0, 1), (.getfield 250, 3), (.iload 1, 1), (.iaload, 1), (.aload 0, 1), (.getfield 224, 3), (.sipush (5), 1), (.iaload, 1), (.invokeinterface 255 2, 3), (.istore 2, 1), (.sipush (0), 1), (.istore 3, 1), (.goto 2, 0)]),
  (36, [(.iload 3, 1), (.iload 2, 1), (.if_icmp .ge 3, 3), (.aload 0, 1), (.iload 1, 1), (.iload 3, 1), (.aload 0, 1), (.getfield 224, 3), (.sipush (54), 2), (.iload 3, 1), (.iadd, 1), (.iaload, 1), (.i2l, 1), (.multianewarray 243 71, 3), (.pop2, 1), (.iinc 3 (1), 3), (.goto 2, 3)]),
  (64, [(.iload 2, 1), (.ireturn, 1)])]
def mX7_pour : ac_M := (yX7_pour, cX7_pour, 4, (some .int), 7, 0, 1, (0, 0), [], bX7_pour, [1760, 83, 1758, 1759], [])
def bX7_image : List (Nat × ac_I) := [(0, [(.aload 0, 1), (.iload 1, 1), (.i2l, 1), (.ldc2_w 0, 1), (.ldc2_w 2, 3), (.invokeinterface 140 3, 3), (.ifCond .eq 1, 3), (.sipush (0), 1), (.goto 2, 3)]),
  (17, [(.sipush (1), 1), (.goto 2, 0)]),
  (18, [(.putfield 228, 3), (.aload 0, 1), (.getfield 228, 3), (.ifCond .le 3, 3), (.return_, 1)]),
  (29, [(.aload 0, 1), (.getfield 227, 3), (.iload 1, 1), (.sipush (1), 1), (.bastore, 1), (.sipush (0), 1), (.istore 2, 1), (.goto 4, 0)]),
  (38, [(.iload 2, 1), (.sipush (114), 2), (.if_icmp .ge 5, 3), (.aload 0, 1), (.getfield 226, 3), (.sipush (114), 2), (.iload 1, 1), (.imul, 1), (.iload 2, 1), (.iadd, 1), (.aload 0, 1), (.getfield 224, 3), (.iload 2, 1), (.iaload, 1), (.iastore, 1), (.iinc 2 (1), 3), (.goto 4, 3)]),
  (67, [(.return_, 1)])]
def mX7_image : ac_M := (yX7_image, cX7_image, 3, none, 7, 0, 1, (0, 0), [], bX7_image, [1765, 83, 1763, 1764], [])
def bX7_restore : List (Nat × ac_I) := [(0, [(.aload 0, 1), (.iload 1, 1), (.i2l, 1), (.ldc2_w 0, 1), (.ldc2_w 2, 3), (.invokeinterface 140 3, 3), (.ifCond .ne 1, 3), (.sipush (1), 1), (.goto 3, 3)]),
  (17, [(.aload 0, 1), (.getfield 227, 3), (.iload 1, 1), (.baload, 1), (.ifCond .ne 2, 3), (.sipush (2), 1), (.goto 3, 3)]),
  (30, [(.sipush (0), 1), (.goto 3, 0)]),
  (31, [(.putfield 228, 3), (.aload 0, 1), (.getfield 228, 3), (.ifCond .le 4, 3), (.return_, 1)]),
  (42, [(.sipush (0), 1), (.istore 2, 1), (.goto 5, 0)]),
  (44, [(.iload 2, 1), (.sipush (114), 2), (.if_icmp .ge 6, 3), (.aload 0, 1), (.getfield 224, 3), (.iload 2, 1), (.aload 0, 1), (.getfield 226, 3), (.sipush (114), 2), (.iload 1, 1), (.imul, 1), (.iload 2, 1), (.iadd, 1), (.iaload, 1), (.iastore, 1), (.iinc 2 (1), 3), (.goto 5, 3)]),
  (73, [(.return_, 1)])]
def mX7_restore : ac_M := (yX7_restore, cX7_restore, 3, none, 7, 0, 1, (0, 0), [], bX7_restore, [1769, 83, 1767, 1768], [])
def ms9 : List ac_M := [mX7_bestRule, mX7_streak, mX7_tally, mX7_bothCame, mX7_together, mX7_friends, mX7_doubts, mX7_guessOf, mX7_cook, mX7_guess, mX7_isTray, mX7_tray, mX7_cut, mX7_write, mX7_pour, mX7_image, mX7_restore]
def bX7_count : List (Nat × ac_I) := [(0, [(.aload 0, 1), (.sipush (0), 1), (.putfield 228, 3), (.sipush (0), 1), (.istore 2, 1), (.sipush (0), 1), (.istore 3, 1), (.goto 1, 0)]),
  (9, [(.iload 3, 1), (.aload 0, 1), (.getfield 224, 3), (.sipush (5), 1), (.iaload, 1), (.if_icmp .ge 4, 3), (.iload 2, 1), (.aload 0, 1), (.aload 0, 1), (.getfield 224, 3), (.sipush (54), 2), (.iload 3, 1), (.iadd, 1), (.iaload, 1), (.multianewarray 164 39, 3), (.ifCond .eq 2, 3), (.sipush (1), 1), (.goto 3, 3)]),
  (40, [(.sipush (0), 1), (.goto 3, 0)]),
  (41, [(.iadd, 1), (.istore 2, 1), (.iinc 3 (1), 3), (.goto 1, 3)]),
  (49, [(.iload 1, 1), (.tableswitch 13 0 7 #[5, 6, 7, 8, 9, 10, 11, 12], 46)]),
  (96, [(.aload 0, 1), (.getfield 224, 3), (.sipush (0), 1), (.iaload, 1), (.ireturn, 1)]),
  (103, [(.aload 0, 1), (.getfield 224, 3), (.sipush (1), 1), (.iaload, 1), (.ireturn, 1)]),
  (110, [(.aload 0, 1), (.getfield 224, 3), (.sipush (2), 1), (.iaload, 1), (.ireturn, 1)]),
  (117, [(.aload 0, 1), (.getfield 224, 3), (.sipush (3), 1), (.iaload, 1), (.ireturn, 1)]),
  (124, [(.aload 0, 1), (.multianewarray 159 23, 3), (.ireturn, 1)]),
  (129, [(.aload 0, 1), (.getfield 224, 3), (.sipush (5), 1), (.iaload, 1), (.ireturn, 1)]),
  (136, [(.iload 2, 1), (.ireturn, 1)]),
  (138, [(.aload 0, 1), (.getfield 230, 3), (.ireturn, 1)]),
  (143, [(.sipush (-1), 1), (.ireturn, 1)])]
def mX7_count : ac_M := (yX7_count, cX7_count, 4, (some .int), 7, 0, 1, (0, 0), [], bX7_count, [1773, 83, 1771, 1772], [])
def bJ6_bitCount_0f7a4 : List (Nat × ac_I) := [(0, [(.iload 0, 1), (.iload 0, 1), (.sipush (1), 1), (.iushr, 1), (.sipush (1431655765), 3), (.iand, 1), (.isub, 1), (.istore 0, 1), (.iload 0, 1), (.sipush (858993459), 3), (.iand, 1), (.iload 0, 1), (.sipush (2), 1), (.iushr, 1), (.sipush (858993459), 3), (.iand, 1), (.iadd, 1), (.istore 0, 1), (.iload 0, 1), (.iload 0, 1), (.sipush (4), 1), (.iushr, 1), (.iadd, 1), (.sipush (252645135), 3), (.iand, 1), (.istore 0, 1), (.iload 0, 1), (.iload 0, 1), (.sipush (8), 2), (.iushr, 1), (.iadd, 1), (.istore 0, 1), (.iload 0, 1), (.iload 0, 1), (.sipush (16), 2), (.iushr, 1), (.iadd, 1), (.istore 0, 1), (.iload 0, 1), (.sipush (63), 2), (.iand, 1), (.ireturn, 1)])]
def mJ6_bitCount_0f7a4 : ac_M := (yJ6_bitCount_0f7a4, cJ6_bitCount_0f7a4, 1, (some .int), 9, 1, 1, (0, 0), [], bJ6_bitCount_0f7a4, [395, 93, 394], [])
def bJ9_floorDiv_f86c9 : List (Nat × ac_I) := [(0, [(.lload 0, 1), (.lload 2, 1), (.ldiv, 1), (.lstore 4, 2), (.lload 0, 1), (.lload 2, 1), (.lxor, 1), (.ldc2_w 0, 1), (.lcmp, 1), (.ifCond .ge 1, 3), (.lload 4, 2), (.lload 2, 1), (.lmul, 1), (.lload 0, 1), (.lcmp, 1), (.ifCond .eq 1, 3), (.lload 4, 2), (.ldc2_w 1, 1), (.lsub, 1), (.lreturn, 1)]),
  (27, [(.lload 4, 2), (.lreturn, 1)])]
def mJ9_floorDiv_f86c9 : ac_M := (yJ9_floorDiv_f86c9, cJ9_floorDiv_f86c9, 6, (some .long), 10, 1, 2, (0, 0), [], bJ9_floorDiv_f86c9, [1023, 95, 1022], [])
def bJ9_floorMod_f86c9 : List (Nat × ac_I) := [(0, [(.lload 0, 1), (.lload 2, 1), (.lrem, 1), (.lstore 4, 2), (.lload 0, 1), (.lload 2, 1), (.lxor, 1), (.ldc2_w 0, 1), (.lcmp, 1), (.ifCond .ge 1, 3), (.lload 4, 2), (.ldc2_w 0, 1), (.lcmp, 1), (.ifCond .eq 1, 3), (.lload 4, 2), (.lload 2, 1), (.ladd, 1), (.lreturn, 1)]),
  (25, [(.lload 4, 2), (.lreturn, 1)])]
def mJ9_floorMod_f86c9 : ac_M := (yJ9_floorMod_f86c9, cJ9_floorMod_f86c9, 6, (some .long), 10, 1, 2, (0, 0), [], bJ9_floorMod_f86c9, [1026, 95, 1025], [])
def bJ9_abs_0f7a4 : List (Nat × ac_I) := [(0, [(.iload 0, 1), (.ifCond .ge 1, 3), (.iload 0, 1), (.ineg, 1), (.goto 2, 3)]),
  (9, [(.iload 0, 1), (.goto 2, 0)]),
  (10, [(.ireturn, 1)])]
def mJ9_abs_0f7a4 : ac_M := (Lib.Math.abs.name, Lib.Math.abs.code, 1, (some .int), 10, 1, 1, (0, 0), [], bJ9_abs_0f7a4, [1140, 95, 1139], [])
def bJ9_max_7cf53 : List (Nat × ac_I) := [(0, [(.iload 0, 1), (.iload 1, 1), (.if_icmp .lt 1, 3), (.iload 0, 1), (.goto 2, 3)]),
  (9, [(.iload 1, 1), (.goto 2, 0)]),
  (10, [(.ireturn, 1)])]
def mJ9_max_7cf53 : ac_M := (Lib.Math.max.name, Lib.Math.max.code, 2, (some .int), 10, 1, 2, (0, 0), [], bJ9_max_7cf53, [922, 95, 921], [])
def bJ9_max_f86c9 : List (Nat × ac_I) := [(0, [(.lload 0, 1), (.lload 2, 1), (.lcmp, 1), (.ifCond .lt 1, 3), (.lload 0, 1), (.goto 2, 3)]),
  (10, [(.lload 2, 1), (.goto 2, 0)]),
  (11, [(.lreturn, 1)])]
def mJ9_max_f86c9 : ac_M := (Lib.MathLoose.max_long.x, Lib.MathLoose.max_long.code, 4, (some .long), 10, 1, 2, (0, 0), [], bJ9_max_f86c9, [1020, 95, 1019], [])
def bJ9_min_7cf53 : List (Nat × ac_I) := [(0, [(.iload 0, 1), (.iload 1, 1), (.if_icmp .gt 1, 3), (.iload 0, 1), (.goto 2, 3)]),
  (9, [(.iload 1, 1), (.goto 2, 0)]),
  (10, [(.ireturn, 1)])]
def mJ9_min_7cf53 : ac_M := (Lib.Math.min.name, Lib.Math.min.code, 2, (some .int), 10, 1, 2, (0, 0), [], bJ9_min_7cf53, [1199, 95, 1198], [])
def bL_club : List (Nat × ac_I) := [(0, [(.aload 2, 1), (.sipush (0), 1), (.aload 0, 1), (.iload 1, 1), (.putstatic 18470, 3), (.i2l, 1), (.lastore, 1), (.goto 1, 3)]),
  (15, [(.sipush (0), 1), (.ireturn, 1)])]
def mL_club : ac_M := (yL_club, cL_club, 4, (some .int), 8, 6, 3, (1, 6), [(0, 1)], bL_club, [505, 75, 504], [(0, 9, 12, 13)])
def bL_member : List (Nat × ac_I) := [(0, [(.aload 3, 1), (.sipush (0), 1), (.aload 0, 1), (.iload 1, 1), (.iload 2, 1), (.putstatic 18998, 3), (.i2l, 1), (.lastore, 1), (.goto 1, 3)]),
  (21, [(.sipush (0), 1), (.ireturn, 1)])]
def mL_member : ac_M := (yL_member, cL_member, 5, (some .int), 8, 6, 4, (2, 12), [(1, 1), (0, 2)], bL_member, [710, 75, 709], [(0, 10, 13, 19), (0, 10, 17, 13)])
def bL_quota : List (Nat × ac_I) := [(0, [(.aload 2, 1), (.sipush (0), 1), (.aload 0, 1), (.iload 1, 1), (.putstatic 19238, 3), (.i2l, 1), (.lastore, 1), (.goto 1, 3)]),
  (15, [(.sipush (0), 1), (.ireturn, 1)])]
def mL_quota : ac_M := (yL_quota, cL_quota, 4, (some .int), 8, 6, 3, (1, 6), [(0, 1)], bL_quota, [741, 75, 740], [(0, 9, 12, 13)])
def bL_week : List (Nat × ac_I) := [(0, [(.aload 2, 1), (.sipush (0), 1), (.aload 0, 1), (.iload 1, 1), (.putstatic 19494, 3), (.i2l, 1), (.lastore, 1), (.goto 1, 3)]),
  (15, [(.sipush (0), 1), (.ireturn, 1)])]
def mL_week : ac_M := (yL_week, cL_week, 4, (some .int), 8, 6, 3, (1, 6), [(2, 1)], bL_week, [748, 75, 747], [(0, 9, 12, 27)])
def bL_told : List (Nat × ac_I) := [(0, [(.aload 2, 1), (.sipush (0), 1), (.aload 0, 1), (.iload 1, 1), (.putstatic 19750, 3), (.ifCond .eq 1, 3), (.ldc2_w 1, 1), (.goto 2, 3)]),
  (14, [(.ldc2_w 0, 1), (.goto 2, 0)]),
  (15, [(.lastore, 1), (.goto 3, 3)]),
  (25, [(.sipush (0), 1), (.ireturn, 1)])]
def mL_told : ac_M := (yL_told, cL_told, 4, (some .int), 8, 6, 3, (2, 12), [(2, 1), (0, 2)], bL_told, [784, 75, 783], [(0, 16, 19, 27), (0, 16, 22, 13)])
def bL_back : List (Nat × ac_I) := [(0, [(.aload 2, 1), (.sipush (0), 1), (.aload 0, 1), (.iload 1, 1), (.putstatic 20006, 3), (.i2l, 1), (.lastore, 1), (.goto 1, 3)]),
  (15, [(.sipush (0), 1), (.ireturn, 1)])]
def mL_back : ac_M := (yL_back, cL_back, 4, (some .int), 8, 6, 3, (1, 6), [(0, 1)], bL_back, [796, 75, 795], [(0, 9, 12, 13)])
def bL_came : List (Nat × ac_I) := [(0, [(.aload 2, 1), (.sipush (0), 1), (.aload 0, 1), (.iload 1, 1), (.putstatic 20262, 3), (.i2l, 1), (.lastore, 1), (.goto 1, 3)]),
  (15, [(.sipush (0), 1), (.ireturn, 1)])]
def mL_came : ac_M := (yL_came, cL_came, 4, (some .int), 8, 6, 3, (1, 6), [(1, 1)], bL_came, [803, 75, 802], [(0, 9, 12, 19)])
def bL_met : List (Nat × ac_I) := [(0, [(.aload 2, 1), (.sipush (0), 1), (.aload 0, 1), (.iload 1, 1), (.putstatic 20518, 3), (.ifCond .eq 1, 3), (.ldc2_w 1, 1), (.goto 2, 3)]),
  (14, [(.ldc2_w 0, 1), (.goto 2, 0)]),
  (15, [(.lastore, 1), (.goto 3, 3)]),
  (22, [(.sipush (0), 1), (.ireturn, 1)])]
def mL_met : ac_M := (yL_met, cL_met, 4, (some .int), 8, 6, 3, (1, 6), [(1, 1)], bL_met, [814, 75, 813], [(0, 16, 19, 19)])
def bL_hats : List (Nat × ac_I) := [(0, [(.aload 2, 1), (.sipush (0), 1), (.aload 0, 1), (.iload 1, 1), (.putstatic 21030, 3), (.i2l, 1), (.lastore, 1), (.goto 1, 3)]),
  (15, [(.sipush (0), 1), (.ireturn, 1)])]
def mL_hats : ac_M := (yL_hats, cL_hats, 4, (some .int), 8, 6, 3, (1, 6), [(1, 1)], bL_hats, [821, 75, 820], [(0, 9, 12, 19)])
def bL_thought : List (Nat × ac_I) := [(0, [(.aload 3, 1), (.sipush (0), 1), (.aload 0, 1), (.iload 1, 1), (.iload 2, 1), (.putstatic 21302, 3), (.ifCond .eq 1, 3), (.ldc2_w 1, 1), (.goto 2, 3)]),
  (15, [(.ldc2_w 0, 1), (.goto 2, 0)]),
  (16, [(.lastore, 1), (.goto 3, 3)]),
  (28, [(.sipush (0), 1), (.ireturn, 1)])]
def mL_thought : ac_M := (yL_thought, cL_thought, 5, (some .int), 8, 6, 4, (2, 12), [(1, 1), (0, 2)], bL_thought, [830, 75, 829], [(0, 17, 20, 19), (0, 17, 24, 13)])
def bL_judge : List (Nat × ac_I) := [(0, [(.aload 3, 1), (.sipush (0), 1), (.aload 0, 1), (.iload 1, 1), (.iload 2, 1), (.putstatic 21814, 3), (.i2l, 1), (.lastore, 1), (.goto 1, 3)]),
  (25, [(.sipush (0), 1), (.ireturn, 1)])]
def mL_judge : ac_M := (yL_judge, cL_judge, 5, (some .int), 8, 6, 4, (3, 18), [(1, 1), (2, 2), (0, 3)], bL_judge, [838, 75, 837], [(0, 10, 13, 19), (0, 10, 17, 27), (0, 10, 21, 13)])
def bL_gain : List (Nat × ac_I) := [(0, [(.aload 3, 1), (.sipush (0), 1), (.aload 0, 1), (.iload 1, 1), (.iload 2, 1), (.putstatic 22070, 3), (.i2l, 1), (.lastore, 1), (.goto 1, 3)]),
  (21, [(.sipush (0), 1), (.ireturn, 1)])]
def mL_gain : ac_M := (yL_gain, cL_gain, 5, (some .int), 8, 6, 4, (2, 12), [(1, 1), (0, 2)], bL_gain, [856, 75, 855], [(0, 10, 13, 19), (0, 10, 17, 13)])
def bL_rests : List (Nat × ac_I) := [(0, [(.aload 2, 1), (.sipush (0), 1), (.aload 0, 1), (.iload 1, 1), (.putstatic 22310, 3), (.ifCond .eq 1, 3), (.ldc2_w 1, 1), (.goto 2, 3)]),
  (14, [(.ldc2_w 0, 1), (.goto 2, 0)]),
  (15, [(.lastore, 1), (.goto 3, 3)]),
  (22, [(.sipush (0), 1), (.ireturn, 1)])]
def mL_rests : ac_M := (yL_rests, cL_rests, 4, (some .int), 8, 6, 3, (1, 6), [(0, 1)], bL_rests, [868, 75, 867], [(0, 16, 19, 13)])
def bL_strong : List (Nat × ac_I) := [(0, [(.aload 2, 1), (.sipush (0), 1), (.aload 0, 1), (.iload 1, 1), (.putstatic 22822, 3), (.ifCond .eq 1, 3), (.ldc2_w 1, 1), (.goto 2, 3)]),
  (14, [(.ldc2_w 0, 1), (.goto 2, 0)]),
  (15, [(.lastore, 1), (.goto 3, 3)]),
  (22, [(.sipush (0), 1), (.ireturn, 1)])]
def mL_strong : ac_M := (yL_strong, cL_strong, 4, (some .int), 8, 6, 3, (1, 6), [(0, 1)], bL_strong, [875, 75, 874], [(0, 16, 19, 13)])
def bL_turnsBy : List (Nat × ac_I) := [(0, [(.aload 3, 1), (.sipush (0), 1), (.aload 0, 1), (.iload 1, 1), (.iload 2, 1), (.putstatic 23606, 3), (.i2l, 1), (.lastore, 1), (.goto 1, 3)]),
  (25, [(.sipush (0), 1), (.ireturn, 1)])]
def mL_turnsBy : ac_M := (yL_turnsBy, cL_turnsBy, 5, (some .int), 8, 6, 4, (5, 30), [(1, 1), (2, 2), (0, 3)], bL_turnsBy, [882, 75, 881], [(0, 10, 13, 19), (0, 10, 17, 27), (0, 10, 21, 13)])
def bL_two : List (Nat × ac_I) := [(0, [(.aload 4, 2), (.sipush (0), 1), (.aload 0, 1), (.iload 1, 1), (.iload 2, 1), (.iload 3, 1), (.putstatic 24134, 3), (.i2l, 1), (.lastore, 1), (.goto 1, 3)]),
  (23, [(.sipush (0), 1), (.ireturn, 1)])]
def mL_two : ac_M := (yL_two, cL_two, 6, (some .int), 8, 6, 5, (3, 18), [(0, 1), (2, 2)], bL_two, [897, 75, 896], [(0, 12, 15, 13), (0, 12, 19, 27)])
def bL_pay : List (Nat × ac_I) := [(0, [(.aload 2, 1), (.sipush (0), 1), (.aload 0, 1), (.iload 1, 1), (.putstatic 24614, 3), (.i2l, 1), (.lastore, 1), (.goto 1, 3)]),
  (15, [(.sipush (0), 1), (.ireturn, 1)])]
def mL_pay : ac_M := (yL_pay, cL_pay, 4, (some .int), 8, 6, 3, (1, 6), [(0, 1)], bL_pay, [929, 75, 928], [(0, 9, 12, 13)])
def bL_pivots : List (Nat × ac_I) := [(0, [(.aload 2, 1), (.sipush (0), 1), (.aload 0, 1), (.iload 1, 1), (.putstatic 24870, 3), (.i2l, 1), (.lastore, 1), (.goto 1, 3)]),
  (15, [(.sipush (0), 1), (.ireturn, 1)])]
def mL_pivots : ac_M := (yL_pivots, cL_pivots, 4, (some .int), 8, 6, 3, (1, 6), [(0, 1)], bL_pivots, [936, 75, 935], [(0, 9, 12, 13)])
def bL_replies : List (Nat × ac_I) := [(0, [(.aload 3, 1), (.sipush (0), 1), (.aload 0, 1), (.iload 1, 1), (.iload 2, 1), (.putstatic 25142, 3), (.i2l, 1), (.lastore, 1), (.goto 1, 3)]),
  (17, [(.sipush (0), 1), (.ireturn, 1)])]
def mL_replies : ac_M := (yL_replies, cL_replies, 5, (some .int), 8, 6, 4, (2, 12), [(0, 1)], bL_replies, [943, 75, 942], [(0, 10, 13, 13)])
def bL_bribe : List (Nat × ac_I) := [(0, [(.aload 2, 1), (.sipush (0), 1), (.aload 0, 1), (.iload 1, 1), (.putstatic 25382, 3), (.i2l, 1), (.lastore, 1), (.goto 1, 3)]),
  (15, [(.sipush (0), 1), (.ireturn, 1)])]
def mL_bribe : ac_M := (yL_bribe, cL_bribe, 4, (some .int), 8, 6, 3, (1, 6), [(0, 1)], bL_bribe, [950, 75, 949], [(0, 9, 12, 13)])
def bL_leastBribe : List (Nat × ac_I) := [(0, [(.aload 2, 1), (.sipush (0), 1), (.aload 0, 1), (.iload 1, 1), (.putstatic 25638, 3), (.i2l, 1), (.lastore, 1), (.goto 1, 3)]),
  (15, [(.sipush (0), 1), (.ireturn, 1)])]
def mL_leastBribe : ac_M := (yL_leastBribe, cL_leastBribe, 4, (some .int), 8, 6, 3, (1, 6), [(0, 1)], bL_leastBribe, [963, 75, 962], [(0, 9, 12, 13)])
def bL_contract : List (Nat × ac_I) := [(0, [(.aload 2, 1), (.sipush (0), 1), (.aload 0, 1), (.iload 1, 1), (.putstatic 25894, 3), (.i2l, 1), (.lastore, 1), (.goto 1, 3)]),
  (15, [(.sipush (0), 1), (.ireturn, 1)])]
def mL_contract : ac_M := (yL_contract, cL_contract, 4, (some .int), 8, 6, 3, (1, 6), [(0, 1)], bL_contract, [970, 75, 969], [(0, 9, 12, 13)])
def bL_odds : List (Nat × ac_I) := [(0, [(.aload 4, 2), (.sipush (0), 1), (.aload 0, 1), (.iload 1, 1), (.iload 2, 1), (.iload 3, 1), (.putstatic 26182, 3), (.lastore, 1), (.goto 1, 3)]),
  (18, [(.sipush (0), 1), (.ireturn, 1)])]
def mL_odds : ac_M := (yL_odds, cL_odds, 6, (some .int), 8, 6, 5, (2, 12), [(0, 1)], bL_odds, [978, 75, 977], [(0, 11, 14, 13)])
def bL_bestOdds : List (Nat × ac_I) := [(0, [(.aload 2, 1), (.sipush (0), 1), (.aload 0, 1), (.iload 1, 1), (.putstatic 26406, 3), (.i2l, 1), (.lastore, 1), (.goto 1, 3)]),
  (15, [(.sipush (0), 1), (.ireturn, 1)])]
def mL_bestOdds : ac_M := (yL_bestOdds, cL_bestOdds, 4, (some .int), 8, 6, 3, (1, 6), [(0, 1)], bL_bestOdds, [995, 75, 994], [(0, 9, 12, 13)])
def bL_chances : List (Nat × ac_I) := [(0, [(.aload 4, 2), (.sipush (0), 1), (.aload 0, 1), (.iload 1, 1), (.iload 2, 1), (.iload 3, 1), (.putstatic 26694, 3), (.lastore, 1), (.goto 1, 3)]),
  (26, [(.sipush (0), 1), (.ireturn, 1)])]
def mL_chances : ac_M := (yL_chances, cL_chances, 6, (some .int), 8, 6, 5, (5, 30), [(1, 1), (2, 2), (0, 3)], bL_chances, [1002, 75, 1001], [(0, 11, 14, 19), (0, 11, 18, 27), (0, 11, 22, 13)])
def bL_hope : List (Nat × ac_I) := [(0, [(.aload 5, 2), (.sipush (0), 1), (.aload 0, 1), (.iload 1, 1), (.iload 2, 1), (.iload 3, 1), (.iload 4, 2), (.putstatic 26966, 3), (.lastore, 1), (.goto 1, 3)]),
  (24, [(.sipush (0), 1), (.ireturn, 1)])]
def mL_hope : ac_M := (yL_hope, cL_hope, 7, (some .int), 8, 6, 6, (4, 24), [(1, 1), (0, 2)], bL_hope, [1013, 75, 1012], [(0, 13, 16, 19), (0, 13, 20, 13)])
def bL_ahead : List (Nat × ac_I) := [(0, [(.aload 3, 1), (.sipush (0), 1), (.aload 0, 1), (.iload 1, 1), (.iload 2, 1), (.putstatic 27190, 3), (.i2l, 1), (.lastore, 1), (.goto 1, 3)]),
  (17, [(.sipush (0), 1), (.ireturn, 1)])]
def mL_ahead : ac_M := (yL_ahead, cL_ahead, 5, (some .int), 8, 6, 4, (2, 12), [(0, 1)], bL_ahead, [1029, 75, 1028], [(0, 10, 13, 13)])
def bL_ring : List (Nat × ac_I) := [(0, [(.aload 2, 1), (.sipush (0), 1), (.aload 0, 1), (.iload 1, 1), (.putstatic 27430, 3), (.i2l, 1), (.lastore, 1), (.goto 1, 3)]),
  (15, [(.sipush (0), 1), (.ireturn, 1)])]
def mL_ring : ac_M := (yL_ring, cL_ring, 4, (some .int), 8, 6, 3, (1, 6), [(0, 1)], bL_ring, [1043, 75, 1042], [(0, 9, 12, 13)])
def bL_worth : List (Nat × ac_I) := [(0, [(.aload 3, 1), (.sipush (0), 1), (.aload 0, 1), (.iload 1, 1), (.iload 2, 1), (.putstatic 27702, 3), (.i2l, 1), (.lastore, 1), (.goto 1, 3)]),
  (21, [(.sipush (0), 1), (.ireturn, 1)])]
def mL_worth : ac_M := (yL_worth, cL_worth, 5, (some .int), 8, 6, 4, (2, 12), [(1, 1), (0, 2)], bL_worth, [1061, 75, 1060], [(0, 10, 13, 19), (0, 10, 17, 13)])
def bL_bestQuota : List (Nat × ac_I) := [(0, [(.aload 2, 1), (.sipush (0), 1), (.aload 0, 1), (.iload 1, 1), (.putstatic 27942, 3), (.i2l, 1), (.lastore, 1), (.goto 1, 3)]),
  (15, [(.sipush (0), 1), (.ireturn, 1)])]
def mL_bestQuota : ac_M := (yL_bestQuota, cL_bestQuota, 4, (some .int), 8, 6, 3, (1, 6), [(0, 1)], bL_bestQuota, [1079, 75, 1078], [(0, 9, 12, 13)])
def bL_bestRule : List (Nat × ac_I) := [(0, [(.aload 4, 2), (.sipush (0), 1), (.aload 0, 1), (.iload 1, 1), (.iload 2, 1), (.iload 3, 1), (.putstatic 28230, 3), (.i2l, 1), (.lastore, 1), (.goto 1, 3)]),
  (23, [(.sipush (0), 1), (.ireturn, 1)])]
def mL_bestRule : ac_M := (yL_bestRule, cL_bestRule, 6, (some .int), 8, 6, 5, (3, 18), [(1, 1), (0, 2)], bL_bestRule, [1086, 75, 1085], [(0, 12, 15, 19), (0, 12, 19, 13)])
def bL_streak : List (Nat × ac_I) := [(0, [(.aload 2, 1), (.sipush (0), 1), (.aload 0, 1), (.iload 1, 1), (.putstatic 28454, 3), (.i2l, 1), (.lastore, 1), (.goto 1, 3)]),
  (15, [(.sipush (0), 1), (.ireturn, 1)])]
def mL_streak : ac_M := (yL_streak, cL_streak, 4, (some .int), 8, 6, 3, (1, 6), [(0, 1)], bL_streak, [1099, 75, 1098], [(0, 9, 12, 13)])
def bL_together : List (Nat × ac_I) := [(0, [(.aload 3, 1), (.sipush (0), 1), (.aload 0, 1), (.iload 1, 1), (.iload 2, 1), (.putstatic 28982, 3), (.i2l, 1), (.lastore, 1), (.goto 1, 3)]),
  (17, [(.sipush (0), 1), (.ireturn, 1)])]
def mL_together : ac_M := (yL_together, cL_together, 5, (some .int), 8, 6, 4, (2, 12), [(1, 1)], bL_together, [1106, 75, 1105], [(0, 10, 13, 19)])
def bL_doubts : List (Nat × ac_I) := [(0, [(.aload 3, 1), (.sipush (0), 1), (.aload 0, 1), (.iload 1, 1), (.iload 2, 1), (.putstatic 29494, 3), (.i2l, 1), (.lastore, 1), (.goto 1, 3)]),
  (17, [(.sipush (0), 1), (.ireturn, 1)])]
def mL_doubts : ac_M := (yL_doubts, cL_doubts, 5, (some .int), 8, 6, 4, (2, 12), [(1, 1)], bL_doubts, [1113, 75, 1112], [(0, 10, 13, 19)])
def bL_cook : List (Nat × ac_I) := [(0, [(.aload 2, 1), (.sipush (0), 1), (.aload 0, 1), (.iload 1, 1), (.putstatic 29734, 3), (.i2l, 1), (.lastore, 1), (.goto 1, 3)]),
  (15, [(.sipush (0), 1), (.ireturn, 1)])]
def mL_cook : ac_M := (yL_cook, cL_cook, 4, (some .int), 8, 6, 3, (1, 6), [(0, 1)], bL_cook, [1121, 75, 1120], [(0, 9, 12, 13)])
def bL_guess : List (Nat × ac_I) := [(0, [(.aload 2, 1), (.sipush (0), 1), (.aload 0, 1), (.iload 1, 1), (.putstatic 29990, 3), (.i2l, 1), (.lastore, 1), (.goto 1, 3)]),
  (15, [(.sipush (0), 1), (.ireturn, 1)])]
def mL_guess : ac_M := (yL_guess, cL_guess, 4, (some .int), 8, 6, 3, (1, 6), [(0, 1)], bL_guess, [1143, 75, 1142], [(0, 9, 12, 13)])
def bL_tray : List (Nat × ac_I) := [(0, [(.aload 0, 1), (.iload 1, 1), (.iload 2, 1), (.iload 3, 1), (.putstatic 30278, 3), (.goto 1, 3)]),
  (18, [(.sipush (0), 1), (.ireturn, 1)])]
def mL_tray : ac_M := (yL_tray, cL_tray, 5, (some .int), 8, 6, 4, (3, 18), [(1, 1), (0, 2)], bL_tray, [1150, 75, 1149], [(0, 7, 10, 19), (0, 7, 14, 13)])
def bL_write : List (Nat × ac_I) := [(0, [(.aload 5, 2), (.sipush (0), 1), (.aload 0, 1), (.iload 1, 1), (.iload 2, 1), (.lload 3, 1), (.putstatic 30534, 3), (.lastore, 1), (.goto 1, 3)]),
  (26, [(.sipush (0), 1), (.ireturn, 1)])]
def mL_write : ac_M := (yL_write, cL_write, 7, (some .int), 8, 6, 5, (3, 18), [(1, 1), (2, 2), (3, 3)], bL_write, [1161, 75, 1160], [(0, 11, 14, 19), (0, 11, 18, 27), (0, 11, 22, 138)])
def bL_pour : List (Nat × ac_I) := [(0, [(.aload 2, 1), (.sipush (0), 1), (.aload 0, 1), (.iload 1, 1), (.putstatic 30758, 3), (.i2l, 1), (.lastore, 1), (.goto 1, 3)]),
  (18, [(.sipush (0), 1), (.ireturn, 1)])]
def mL_pour : ac_M := (yL_pour, cL_pour, 4, (some .int), 8, 6, 3, (2, 12), [(1, 1), (2, 2)], bL_pour, [1192, 75, 1191], [(0, 9, 12, 19), (0, 9, 15, 27)])
def bL_image : List (Nat × ac_I) := [(0, [(.aload 0, 1), (.iload 1, 1), (.putstatic 31014, 3), (.goto 1, 3)]),
  (11, [(.sipush (0), 1), (.ireturn, 1)])]
def mL_image : ac_M := (yL_image, cL_image, 3, (some .int), 8, 6, 2, (1, 6), [(1, 1)], bL_image, [1202, 75, 1201], [(0, 5, 8, 19)])
def bL_restore : List (Nat × ac_I) := [(0, [(.aload 0, 1), (.iload 1, 1), (.putstatic 31270, 3), (.goto 1, 3)]),
  (14, [(.sipush (0), 1), (.ireturn, 1)])]
def mL_restore : ac_M := (yL_restore, cL_restore, 3, (some .int), 8, 6, 2, (2, 12), [(1, 1), (2, 2)], bL_restore, [1212, 75, 1211], [(0, 5, 8, 19), (0, 5, 11, 27)])
def ms10 : List ac_M := [mX7_count, mJ6_bitCount_0f7a4, mJ9_floorDiv_f86c9, mJ9_floorMod_f86c9, mJ9_abs_0f7a4, mJ9_max_7cf53, mJ9_max_f86c9, mJ9_min_7cf53, mL_club, mL_member, mL_quota, mL_week, mL_told, mL_back, mL_came, mL_met, mL_hats, mL_thought, mL_judge, mL_gain, mL_rests, mL_strong, mL_turnsBy, mL_two, mL_pay, mL_pivots, mL_replies, mL_bribe, mL_leastBribe, mL_contract, mL_odds, mL_bestOdds, mL_chances, mL_hope, mL_ahead, mL_ring, mL_worth, mL_bestQuota, mL_bestRule, mL_streak, mL_together, mL_doubts, mL_cook, mL_guess, mL_tray, mL_write, mL_pour, mL_image, mL_restore]
def bL_law0 : List (Nat × ac_I) := [(0, [(.new 6, 3), (.dup, 1), (.dload 1121, 3), (.astore 1, 1), (.new 7, 3), (.dup, 1), (.dload 2193, 3), (.astore 2, 1), (.sipush (1), 1), (.newarray .long, 2), (.astore 3, 1), (.sipush (0), 1), (.istore 4, 2), (.goto 1, 0)]),
  (23, [(.iload 4, 2), (.aload 0, 1), (.caload, 1), (.sipush (6), 2), (.isub, 1), (.if_icmp .gt 144, 3), (.aload 0, 1), (.iload 4, 2), (.faload, 1), (.sipush (63), 2), (.iand, 1), (.tableswitch 143 0 51 #[2, 3, 6, 7, 10, 13, 16, 21, 24, 27, 32, 33, 36, 41, 42, 45, 48, 53, 54, 59, 60, 61, 64, 67, 68, 71, 74, 77, 80, 83, 86, 89, 92, 95, 98, 101, 104, 107, 110, 113, 116, 117, 120, 121, 124, 127, 130, 132, 135, 138, 140, 142], 224)]),
  (264, [(.aload 1, 1), (.aload 0, 1), (.iload 4, 2), (.sipush (1), 1), (.iadd, 1), (.faload, 1), (.aload 0, 1), (.iload 4, 2), (.sipush (2), 1), (.iadd, 1), (.faload, 1), (.aload 0, 1), (.iload 4, 2), (.sipush (3), 1), (.iadd, 1), (.faload, 1), (.aload 0, 1), (.iload 4, 2), (.sipush (4), 1), (.iadd, 1), (.faload, 1), (.aload 0, 1), (.iload 4, 2), (.sipush (5), 1), (.iadd, 1), (.faload, 1), (.multianewarray 71 102, 3), (.aload 2, 1), (.aload 0, 1), (.iload 4, 2), (.sipush (1), 1), (.iadd, 1), (.faload, 1), (.aload 0, 1), (.iload 4, 2), (.sipush (2), 1), (.iadd, 1), (.faload, 1), (.aload 0, 1), (.iload 4, 2), (.sipush (3), 1), (.iadd, 1), (.faload, 1), (.aload 0, 1), (.iload 4, 2), (.sipush (4), 1), (.iadd, 1), (.faload, 1), (.aload 0, 1), (.iload 4, 2), (.sipush (5), 1), (.iadd, 1), (.faload, 1), (.multianewarray 145 103, 3), (.if_icmp .eq 143, 3), (.sipush (0), 1), (.ireturn, 1)]),
  (337, [(.aload 1, 1), (.aload 0, 1), (.iload 4, 2), (.sipush (1), 1), (.iadd, 1), (.faload, 1), (.aload 3, 1), (.ret 4099, 3), (.istore 5, 2), (.aload 2, 1), (.aload 0, 1), (.iload 4, 2), (.sipush (1), 1), (.iadd, 1), (.faload, 1), (.multianewarray 157 39, 3), (.istore 6, 2), (.aload 2, 1), (.multianewarray 138 23, 3), (.iload 5, 2), (.if_icmp .eq 4, 3), (.sipush (0), 1), (.ireturn, 1)])]
def bL_law1 : List (Nat × ac_I) := [(373, [(.iload 5, 2), (.ifCond .ne 5, 3), (.aload 3, 1), (.sipush (0), 1), (.laload, 1), (.iload 6, 2), (.i2l, 1), (.lcmp, 1), (.ifCond .eq 5, 3), (.sipush (0), 1), (.ireturn, 1)]),
  (390, [(.goto 143, 3)]),
  (393, [(.aload 1, 1), (.aload 0, 1), (.iload 4, 2), (.sipush (1), 1), (.iadd, 1), (.faload, 1), (.multianewarray 73 38, 3), (.aload 2, 1), (.aload 0, 1), (.iload 4, 2), (.sipush (1), 1), (.iadd, 1), (.faload, 1), (.multianewarray 158 39, 3), (.if_icmp .eq 143, 3), (.sipush (0), 1), (.ireturn, 1)]),
  (418, [(.aload 1, 1), (.aload 0, 1), (.iload 4, 2), (.sipush (1), 1), (.iadd, 1), (.faload, 1), (.aload 0, 1), (.iload 4, 2), (.sipush (2), 1), (.iadd, 1), (.faload, 1), (.aload 3, 1), (.ret 4116, 3), (.istore 5, 2), (.aload 2, 1), (.aload 0, 1), (.iload 4, 2), (.sipush (1), 1), (.iadd, 1), (.faload, 1), (.aload 0, 1), (.iload 4, 2), (.sipush (2), 1), (.iadd, 1), (.faload, 1), (.multianewarray 166 55, 3), (.istore 6, 2), (.aload 2, 1), (.multianewarray 138 23, 3), (.iload 5, 2), (.if_icmp .eq 8, 3), (.sipush (0), 1), (.ireturn, 1)]),
  (466, [(.iload 5, 2), (.ifCond .ne 9, 3), (.aload 3, 1), (.sipush (0), 1), (.laload, 1), (.iload 6, 2), (.i2l, 1), (.lcmp, 1), (.ifCond .eq 9, 3), (.sipush (0), 1), (.ireturn, 1)]),
  (483, [(.goto 143, 3)]),
  (486, [(.aload 1, 1), (.aload 0, 1), (.iload 4, 2), (.sipush (1), 1), (.iadd, 1), (.faload, 1), (.aload 3, 1), (.ret 4131, 3), (.istore 5, 2), (.aload 2, 1), (.aload 0, 1), (.iload 4, 2), (.sipush (1), 1), (.iadd, 1), (.faload, 1), (.multianewarray 167 39, 3), (.istore 6, 2), (.aload 2, 1), (.multianewarray 138 23, 3), (.iload 5, 2), (.if_icmp .eq 11, 3), (.sipush (0), 1), (.ireturn, 1)])]
def bL_law2 : List (Nat × ac_I) := [(522, [(.iload 5, 2), (.ifCond .ne 12, 3), (.aload 3, 1), (.sipush (0), 1), (.laload, 1), (.iload 6, 2), (.i2l, 1), (.lcmp, 1), (.ifCond .eq 12, 3), (.sipush (0), 1), (.ireturn, 1)]),
  (539, [(.goto 143, 3)]),
  (542, [(.aload 1, 1), (.aload 0, 1), (.iload 4, 2), (.sipush (1), 1), (.iadd, 1), (.faload, 1), (.aload 3, 1), (.ret 4147, 3), (.istore 5, 2), (.aload 2, 1), (.aload 0, 1), (.iload 4, 2), (.sipush (1), 1), (.iadd, 1), (.faload, 1), (.multianewarray 178 39, 3), (.istore 6, 2), (.aload 2, 1), (.multianewarray 138 23, 3), (.iload 5, 2), (.if_icmp .eq 14, 3), (.sipush (0), 1), (.ireturn, 1)]),
  (578, [(.iload 5, 2), (.ifCond .ne 15, 3), (.aload 3, 1), (.sipush (0), 1), (.laload, 1), (.iload 6, 2), (.i2l, 1), (.lcmp, 1), (.ifCond .eq 15, 3), (.sipush (0), 1), (.ireturn, 1)]),
  (595, [(.goto 143, 3)]),
  (598, [(.aload 1, 1), (.aload 0, 1), (.iload 4, 2), (.sipush (1), 1), (.iadd, 1), (.faload, 1), (.aload 3, 1), (.ret 4163, 3), (.istore 5, 2), (.aload 2, 1), (.aload 0, 1), (.iload 4, 2), (.sipush (1), 1), (.iadd, 1), (.faload, 1), (.multianewarray 179 39, 3), (.istore 6, 2), (.aload 2, 1), (.multianewarray 138 23, 3), (.iload 5, 2), (.if_icmp .eq 17, 3), (.sipush (0), 1), (.ireturn, 1)]),
  (634, [(.iload 5, 2), (.ifCond .ne 20, 3), (.aload 3, 1), (.sipush (0), 1), (.laload, 1), (.iload 6, 2), (.ifCond .eq 18, 3), (.ldc2_w 1, 1), (.goto 19, 3)]),
  (651, [(.ldc2_w 0, 1), (.goto 19, 0)]),
  (652, [(.lcmp, 1), (.ifCond .eq 20, 3), (.sipush (0), 1), (.ireturn, 1)]),
  (658, [(.goto 143, 3)]),
  (661, [(.aload 1, 1), (.aload 0, 1), (.iload 4, 2), (.sipush (1), 1), (.iadd, 1), (.faload, 1), (.aload 3, 1), (.ret 4179, 3), (.istore 5, 2), (.aload 2, 1), (.aload 0, 1), (.iload 4, 2), (.sipush (1), 1), (.iadd, 1), (.faload, 1), (.multianewarray 180 39, 3), (.istore 6, 2), (.aload 2, 1), (.multianewarray 138 23, 3), (.iload 5, 2), (.if_icmp .eq 22, 3), (.sipush (0), 1), (.ireturn, 1)])]
def bL_law3 : List (Nat × ac_I) := [(697, [(.iload 5, 2), (.ifCond .ne 23, 3), (.aload 3, 1), (.sipush (0), 1), (.laload, 1), (.iload 6, 2), (.i2l, 1), (.lcmp, 1), (.ifCond .eq 23, 3), (.sipush (0), 1), (.ireturn, 1)]),
  (714, [(.goto 143, 3)]),
  (717, [(.aload 1, 1), (.aload 0, 1), (.iload 4, 2), (.sipush (1), 1), (.iadd, 1), (.faload, 1), (.aload 3, 1), (.ret 4195, 3), (.istore 5, 2), (.aload 2, 1), (.aload 0, 1), (.iload 4, 2), (.sipush (1), 1), (.iadd, 1), (.faload, 1), (.multianewarray 182 39, 3), (.istore 6, 2), (.aload 2, 1), (.multianewarray 138 23, 3), (.iload 5, 2), (.if_icmp .eq 25, 3), (.sipush (0), 1), (.ireturn, 1)]),
  (753, [(.iload 5, 2), (.ifCond .ne 26, 3), (.aload 3, 1), (.sipush (0), 1), (.laload, 1), (.iload 6, 2), (.i2l, 1), (.lcmp, 1), (.ifCond .eq 26, 3), (.sipush (0), 1), (.ireturn, 1)]),
  (770, [(.goto 143, 3)]),
  (773, [(.aload 1, 1), (.aload 0, 1), (.iload 4, 2), (.sipush (1), 1), (.iadd, 1), (.faload, 1), (.aload 3, 1), (.ret 4211, 3), (.istore 5, 2), (.aload 2, 1), (.aload 0, 1), (.iload 4, 2), (.sipush (1), 1), (.iadd, 1), (.faload, 1), (.multianewarray 183 39, 3), (.istore 6, 2), (.aload 2, 1), (.multianewarray 138 23, 3), (.iload 5, 2), (.if_icmp .eq 28, 3), (.sipush (0), 1), (.ireturn, 1)]),
  (809, [(.iload 5, 2), (.ifCond .ne 31, 3), (.aload 3, 1), (.sipush (0), 1), (.laload, 1), (.iload 6, 2), (.ifCond .eq 29, 3), (.ldc2_w 1, 1), (.goto 30, 3)]),
  (826, [(.ldc2_w 0, 1), (.goto 30, 0)]),
  (827, [(.lcmp, 1), (.ifCond .eq 31, 3), (.sipush (0), 1), (.ireturn, 1)]),
  (833, [(.goto 143, 3)]),
  (836, [(.aload 1, 1), (.multianewarray 81 22, 3), (.aload 2, 1), (.multianewarray 184 23, 3), (.if_icmp .eq 143, 3), (.sipush (0), 1), (.ireturn, 1)])]
def bL_law4 : List (Nat × ac_I) := [(849, [(.aload 1, 1), (.aload 0, 1), (.iload 4, 2), (.sipush (1), 1), (.iadd, 1), (.faload, 1), (.aload 3, 1), (.ret 4227, 3), (.istore 5, 2), (.aload 2, 1), (.aload 0, 1), (.iload 4, 2), (.sipush (1), 1), (.iadd, 1), (.faload, 1), (.multianewarray 185 39, 3), (.istore 6, 2), (.aload 2, 1), (.multianewarray 138 23, 3), (.iload 5, 2), (.if_icmp .eq 34, 3), (.sipush (0), 1), (.ireturn, 1)]),
  (885, [(.iload 5, 2), (.ifCond .ne 35, 3), (.aload 3, 1), (.sipush (0), 1), (.laload, 1), (.iload 6, 2), (.i2l, 1), (.lcmp, 1), (.ifCond .eq 35, 3), (.sipush (0), 1), (.ireturn, 1)]),
  (902, [(.goto 143, 3)]),
  (905, [(.aload 1, 1), (.aload 0, 1), (.iload 4, 2), (.sipush (1), 1), (.iadd, 1), (.faload, 1), (.aload 0, 1), (.iload 4, 2), (.sipush (2), 1), (.iadd, 1), (.faload, 1), (.aload 3, 1), (.ret 4244, 3), (.istore 5, 2), (.aload 2, 1), (.aload 0, 1), (.iload 4, 2), (.sipush (1), 1), (.iadd, 1), (.faload, 1), (.aload 0, 1), (.iload 4, 2), (.sipush (2), 1), (.iadd, 1), (.faload, 1), (.multianewarray 186 55, 3), (.istore 6, 2), (.aload 2, 1), (.multianewarray 138 23, 3), (.iload 5, 2), (.if_icmp .eq 37, 3), (.sipush (0), 1), (.ireturn, 1)]),
  (953, [(.iload 5, 2), (.ifCond .ne 40, 3), (.aload 3, 1), (.sipush (0), 1), (.laload, 1), (.iload 6, 2), (.ifCond .eq 38, 3), (.ldc2_w 1, 1), (.goto 39, 3)]),
  (970, [(.ldc2_w 0, 1), (.goto 39, 0)]),
  (971, [(.lcmp, 1), (.ifCond .eq 40, 3), (.sipush (0), 1), (.ireturn, 1)]),
  (977, [(.goto 143, 3)]),
  (980, [(.aload 1, 1), (.multianewarray 84 22, 3), (.aload 2, 1), (.multianewarray 187 23, 3), (.if_icmp .eq 143, 3), (.sipush (0), 1), (.ireturn, 1)])]
def bL_law5 : List (Nat × ac_I) := [(993, [(.aload 1, 1), (.aload 0, 1), (.iload 4, 2), (.sipush (1), 1), (.iadd, 1), (.faload, 1), (.aload 0, 1), (.iload 4, 2), (.sipush (2), 1), (.iadd, 1), (.faload, 1), (.aload 3, 1), (.ret 4260, 3), (.istore 5, 2), (.aload 2, 1), (.aload 0, 1), (.iload 4, 2), (.sipush (1), 1), (.iadd, 1), (.faload, 1), (.aload 0, 1), (.iload 4, 2), (.sipush (2), 1), (.iadd, 1), (.faload, 1), (.multianewarray 189 55, 3), (.istore 6, 2), (.aload 2, 1), (.multianewarray 138 23, 3), (.iload 5, 2), (.if_icmp .eq 43, 3), (.sipush (0), 1), (.ireturn, 1)]),
  (1041, [(.iload 5, 2), (.ifCond .ne 44, 3), (.aload 3, 1), (.sipush (0), 1), (.laload, 1), (.iload 6, 2), (.i2l, 1), (.lcmp, 1), (.ifCond .eq 44, 3), (.sipush (0), 1), (.ireturn, 1)]),
  (1058, [(.goto 143, 3)]),
  (1061, [(.aload 1, 1), (.aload 0, 1), (.iload 4, 2), (.sipush (1), 1), (.iadd, 1), (.faload, 1), (.aload 0, 1), (.iload 4, 2), (.sipush (2), 1), (.iadd, 1), (.faload, 1), (.aload 3, 1), (.ret 4276, 3), (.istore 5, 2), (.aload 2, 1), (.aload 0, 1), (.iload 4, 2), (.sipush (1), 1), (.iadd, 1), (.faload, 1), (.aload 0, 1), (.iload 4, 2), (.sipush (2), 1), (.iadd, 1), (.faload, 1), (.multianewarray 193 55, 3), (.istore 6, 2), (.aload 2, 1), (.multianewarray 138 23, 3), (.iload 5, 2), (.if_icmp .eq 46, 3), (.sipush (0), 1), (.ireturn, 1)]),
  (1109, [(.iload 5, 2), (.ifCond .ne 47, 3), (.aload 3, 1), (.sipush (0), 1), (.laload, 1), (.iload 6, 2), (.i2l, 1), (.lcmp, 1), (.ifCond .eq 47, 3), (.sipush (0), 1), (.ireturn, 1)]),
  (1126, [(.goto 143, 3)])]
def bL_law6 : List (Nat × ac_I) := [(1129, [(.aload 1, 1), (.aload 0, 1), (.iload 4, 2), (.sipush (1), 1), (.iadd, 1), (.faload, 1), (.aload 3, 1), (.ret 4291, 3), (.istore 5, 2), (.aload 2, 1), (.aload 0, 1), (.iload 4, 2), (.sipush (1), 1), (.iadd, 1), (.faload, 1), (.multianewarray 194 39, 3), (.istore 6, 2), (.aload 2, 1), (.multianewarray 138 23, 3), (.iload 5, 2), (.if_icmp .eq 49, 3), (.sipush (0), 1), (.ireturn, 1)]),
  (1165, [(.iload 5, 2), (.ifCond .ne 52, 3), (.aload 3, 1), (.sipush (0), 1), (.laload, 1), (.iload 6, 2), (.ifCond .eq 50, 3), (.ldc2_w 1, 1), (.goto 51, 3)]),
  (1182, [(.ldc2_w 0, 1), (.goto 51, 0)]),
  (1183, [(.lcmp, 1), (.ifCond .eq 52, 3), (.sipush (0), 1), (.ireturn, 1)]),
  (1189, [(.goto 143, 3)]),
  (1192, [(.aload 1, 1), (.aload 0, 1), (.iload 4, 2), (.sipush (1), 1), (.iadd, 1), (.faload, 1), (.multianewarray 88 38, 3), (.aload 2, 1), (.aload 0, 1), (.iload 4, 2), (.sipush (1), 1), (.iadd, 1), (.faload, 1), (.multianewarray 195 39, 3), (.if_icmp .eq 143, 3), (.sipush (0), 1), (.ireturn, 1)]),
  (1217, [(.aload 1, 1), (.aload 0, 1), (.iload 4, 2), (.sipush (1), 1), (.iadd, 1), (.faload, 1), (.aload 3, 1), (.ret 4307, 3), (.istore 5, 2), (.aload 2, 1), (.aload 0, 1), (.iload 4, 2), (.sipush (1), 1), (.iadd, 1), (.faload, 1), (.multianewarray 197 39, 3), (.istore 6, 2), (.aload 2, 1), (.multianewarray 138 23, 3), (.iload 5, 2), (.if_icmp .eq 55, 3), (.sipush (0), 1), (.ireturn, 1)]),
  (1253, [(.iload 5, 2), (.ifCond .ne 58, 3), (.aload 3, 1), (.sipush (0), 1), (.laload, 1), (.iload 6, 2), (.ifCond .eq 56, 3), (.ldc2_w 1, 1), (.goto 57, 3)]),
  (1270, [(.ldc2_w 0, 1), (.goto 57, 0)])]
def bL_law7 : List (Nat × ac_I) := [(1271, [(.lcmp, 1), (.ifCond .eq 58, 3), (.sipush (0), 1), (.ireturn, 1)]),
  (1277, [(.goto 143, 3)]),
  (1280, [(.aload 1, 1), (.aload 0, 1), (.iload 4, 2), (.sipush (1), 1), (.iadd, 1), (.faload, 1), (.multianewarray 90 38, 3), (.aload 2, 1), (.aload 0, 1), (.iload 4, 2), (.sipush (1), 1), (.iadd, 1), (.faload, 1), (.multianewarray 198 39, 3), (.if_icmp .eq 143, 3), (.sipush (0), 1), (.ireturn, 1)]),
  (1305, [(.aload 1, 1), (.multianewarray 91 22, 3), (.aload 2, 1), (.multianewarray 201 23, 3), (.if_icmp .eq 143, 3), (.sipush (0), 1), (.ireturn, 1)]),
  (1318, [(.aload 1, 1), (.aload 0, 1), (.iload 4, 2), (.sipush (1), 1), (.iadd, 1), (.faload, 1), (.aload 0, 1), (.iload 4, 2), (.sipush (2), 1), (.iadd, 1), (.faload, 1), (.aload 3, 1), (.ret 4324, 3), (.istore 5, 2), (.aload 2, 1), (.aload 0, 1), (.iload 4, 2), (.sipush (1), 1), (.iadd, 1), (.faload, 1), (.aload 0, 1), (.iload 4, 2), (.sipush (2), 1), (.iadd, 1), (.faload, 1), (.multianewarray 202 55, 3), (.istore 6, 2), (.aload 2, 1), (.multianewarray 138 23, 3), (.iload 5, 2), (.if_icmp .eq 62, 3), (.sipush (0), 1), (.ireturn, 1)]),
  (1366, [(.iload 5, 2), (.ifCond .ne 63, 3), (.aload 3, 1), (.sipush (0), 1), (.laload, 1), (.iload 6, 2), (.i2l, 1), (.lcmp, 1), (.ifCond .eq 63, 3), (.sipush (0), 1), (.ireturn, 1)]),
  (1383, [(.goto 143, 3)]),
  (1386, [(.aload 1, 1), (.aload 0, 1), (.iload 4, 2), (.sipush (1), 1), (.iadd, 1), (.faload, 1), (.aload 0, 1), (.iload 4, 2), (.sipush (2), 1), (.iadd, 1), (.faload, 1), (.aload 0, 1), (.iload 4, 2), (.sipush (3), 1), (.iadd, 1), (.faload, 1), (.aload 3, 1), (.ret 4341, 3), (.istore 5, 2), (.aload 2, 1), (.aload 0, 1), (.iload 4, 2), (.sipush (1), 1), (.iadd, 1), (.faload, 1), (.aload 0, 1), (.iload 4, 2), (.sipush (2), 1), (.iadd, 1), (.faload, 1), (.aload 0, 1), (.iload 4, 2), (.sipush (3), 1), (.iadd, 1), (.faload, 1), (.multianewarray 205 71, 3), (.istore 6, 2), (.aload 2, 1), (.multianewarray 138 23, 3), (.iload 5, 2), (.if_icmp .eq 65, 3), (.sipush (0), 1), (.ireturn, 1)])]
def bL_law8 : List (Nat × ac_I) := [(1446, [(.iload 5, 2), (.ifCond .ne 66, 3), (.aload 3, 1), (.sipush (0), 1), (.laload, 1), (.iload 6, 2), (.i2l, 1), (.lcmp, 1), (.ifCond .eq 66, 3), (.sipush (0), 1), (.ireturn, 1)]),
  (1463, [(.goto 143, 3)]),
  (1466, [(.aload 1, 1), (.multianewarray 95 22, 3), (.aload 2, 1), (.multianewarray 206 23, 3), (.if_icmp .eq 143, 3), (.sipush (0), 1), (.ireturn, 1)]),
  (1479, [(.aload 1, 1), (.aload 0, 1), (.iload 4, 2), (.sipush (1), 1), (.iadd, 1), (.faload, 1), (.aload 3, 1), (.ret 4355, 3), (.istore 5, 2), (.aload 2, 1), (.aload 0, 1), (.iload 4, 2), (.sipush (1), 1), (.iadd, 1), (.faload, 1), (.multianewarray 207 39, 3), (.istore 6, 2), (.aload 2, 1), (.multianewarray 138 23, 3), (.iload 5, 2), (.if_icmp .eq 69, 3), (.sipush (0), 1), (.ireturn, 1)]),
  (1515, [(.iload 5, 2), (.ifCond .ne 70, 3), (.aload 3, 1), (.sipush (0), 1), (.laload, 1), (.iload 6, 2), (.i2l, 1), (.lcmp, 1), (.ifCond .eq 70, 3), (.sipush (0), 1), (.ireturn, 1)]),
  (1532, [(.goto 143, 3)]),
  (1535, [(.aload 1, 1), (.aload 0, 1), (.iload 4, 2), (.sipush (1), 1), (.iadd, 1), (.faload, 1), (.aload 3, 1), (.ret 4371, 3), (.istore 5, 2), (.aload 2, 1), (.aload 0, 1), (.iload 4, 2), (.sipush (1), 1), (.iadd, 1), (.faload, 1), (.multianewarray 208 39, 3), (.istore 6, 2), (.aload 2, 1), (.multianewarray 138 23, 3), (.iload 5, 2), (.if_icmp .eq 72, 3), (.sipush (0), 1), (.ireturn, 1)]),
  (1571, [(.iload 5, 2), (.ifCond .ne 73, 3), (.aload 3, 1), (.sipush (0), 1), (.laload, 1), (.iload 6, 2), (.i2l, 1), (.lcmp, 1), (.ifCond .eq 73, 3), (.sipush (0), 1), (.ireturn, 1)]),
  (1588, [(.goto 143, 3)]),
  (1591, [(.aload 1, 1), (.aload 0, 1), (.iload 4, 2), (.sipush (1), 1), (.iadd, 1), (.faload, 1), (.aload 0, 1), (.iload 4, 2), (.sipush (2), 1), (.iadd, 1), (.faload, 1), (.aload 3, 1), (.ret 4388, 3), (.istore 5, 2), (.aload 2, 1), (.aload 0, 1), (.iload 4, 2), (.sipush (1), 1), (.iadd, 1), (.faload, 1), (.aload 0, 1), (.iload 4, 2), (.sipush (2), 1), (.iadd, 1), (.faload, 1), (.multianewarray 209 55, 3), (.istore 6, 2), (.aload 2, 1), (.multianewarray 138 23, 3), (.iload 5, 2), (.if_icmp .eq 75, 3), (.sipush (0), 1), (.ireturn, 1)])]
def bL_law9 : List (Nat × ac_I) := [(1639, [(.iload 5, 2), (.ifCond .ne 76, 3), (.aload 3, 1), (.sipush (0), 1), (.laload, 1), (.iload 6, 2), (.i2l, 1), (.lcmp, 1), (.ifCond .eq 76, 3), (.sipush (0), 1), (.ireturn, 1)]),
  (1656, [(.goto 143, 3)]),
  (1659, [(.aload 1, 1), (.aload 0, 1), (.iload 4, 2), (.sipush (1), 1), (.iadd, 1), (.faload, 1), (.aload 3, 1), (.ret 4403, 3), (.istore 5, 2), (.aload 2, 1), (.aload 0, 1), (.iload 4, 2), (.sipush (1), 1), (.iadd, 1), (.faload, 1), (.multianewarray 211 39, 3), (.istore 6, 2), (.aload 2, 1), (.multianewarray 138 23, 3), (.iload 5, 2), (.if_icmp .eq 78, 3), (.sipush (0), 1), (.ireturn, 1)]),
  (1695, [(.iload 5, 2), (.ifCond .ne 79, 3), (.aload 3, 1), (.sipush (0), 1), (.laload, 1), (.iload 6, 2), (.i2l, 1), (.lcmp, 1), (.ifCond .eq 79, 3), (.sipush (0), 1), (.ireturn, 1)]),
  (1712, [(.goto 143, 3)]),
  (1715, [(.aload 1, 1), (.aload 0, 1), (.iload 4, 2), (.sipush (1), 1), (.iadd, 1), (.faload, 1), (.aload 3, 1), (.ret 4419, 3), (.istore 5, 2), (.aload 2, 1), (.aload 0, 1), (.iload 4, 2), (.sipush (1), 1), (.iadd, 1), (.faload, 1), (.multianewarray 214 39, 3), (.istore 6, 2), (.aload 2, 1), (.multianewarray 138 23, 3), (.iload 5, 2), (.if_icmp .eq 81, 3), (.sipush (0), 1), (.ireturn, 1)]),
  (1751, [(.iload 5, 2), (.ifCond .ne 82, 3), (.aload 3, 1), (.sipush (0), 1), (.laload, 1), (.iload 6, 2), (.i2l, 1), (.lcmp, 1), (.ifCond .eq 82, 3), (.sipush (0), 1), (.ireturn, 1)]),
  (1768, [(.goto 143, 3)]),
  (1771, [(.aload 1, 1), (.aload 0, 1), (.iload 4, 2), (.sipush (1), 1), (.iadd, 1), (.faload, 1), (.aload 3, 1), (.ret 4435, 3), (.istore 5, 2), (.aload 2, 1), (.aload 0, 1), (.iload 4, 2), (.sipush (1), 1), (.iadd, 1), (.faload, 1), (.multianewarray 215 39, 3), (.istore 6, 2), (.aload 2, 1), (.multianewarray 138 23, 3), (.iload 5, 2), (.if_icmp .eq 84, 3), (.sipush (0), 1), (.ireturn, 1)])]
def bL_law10 : List (Nat × ac_I) := [(1807, [(.iload 5, 2), (.ifCond .ne 85, 3), (.aload 3, 1), (.sipush (0), 1), (.laload, 1), (.iload 6, 2), (.i2l, 1), (.lcmp, 1), (.ifCond .eq 85, 3), (.sipush (0), 1), (.ireturn, 1)]),
  (1824, [(.goto 143, 3)]),
  (1827, [(.aload 1, 1), (.aload 0, 1), (.iload 4, 2), (.sipush (1), 1), (.iadd, 1), (.faload, 1), (.aload 0, 1), (.iload 4, 2), (.sipush (2), 1), (.iadd, 1), (.faload, 1), (.aload 0, 1), (.iload 4, 2), (.sipush (3), 1), (.iadd, 1), (.faload, 1), (.aload 3, 1), (.ret 4453, 3), (.istore 5, 2), (.aload 2, 1), (.aload 0, 1), (.iload 4, 2), (.sipush (1), 1), (.iadd, 1), (.faload, 1), (.aload 0, 1), (.iload 4, 2), (.sipush (2), 1), (.iadd, 1), (.faload, 1), (.aload 0, 1), (.iload 4, 2), (.sipush (3), 1), (.iadd, 1), (.faload, 1), (.multianewarray 219 71, 3), (.lstore 6, 2), (.aload 2, 1), (.multianewarray 138 23, 3), (.iload 5, 2), (.if_icmp .eq 87, 3), (.sipush (0), 1), (.ireturn, 1)]),
  (1887, [(.iload 5, 2), (.ifCond .ne 88, 3), (.aload 3, 1), (.sipush (0), 1), (.laload, 1), (.lload 6, 2), (.lcmp, 1), (.ifCond .eq 88, 3), (.sipush (0), 1), (.ireturn, 1)]),
  (1903, [(.goto 143, 3)]),
  (1906, [(.aload 1, 1), (.aload 0, 1), (.iload 4, 2), (.sipush (1), 1), (.iadd, 1), (.faload, 1), (.aload 3, 1), (.ret 4467, 3), (.istore 5, 2), (.aload 2, 1), (.aload 0, 1), (.iload 4, 2), (.sipush (1), 1), (.iadd, 1), (.faload, 1), (.multianewarray 220 39, 3), (.istore 6, 2), (.aload 2, 1), (.multianewarray 138 23, 3), (.iload 5, 2), (.if_icmp .eq 90, 3), (.sipush (0), 1), (.ireturn, 1)]),
  (1942, [(.iload 5, 2), (.ifCond .ne 91, 3), (.aload 3, 1), (.sipush (0), 1), (.laload, 1), (.iload 6, 2), (.i2l, 1), (.lcmp, 1), (.ifCond .eq 91, 3), (.sipush (0), 1), (.ireturn, 1)])]
def bL_law11 : List (Nat × ac_I) := [(1959, [(.goto 143, 3)]),
  (1962, [(.aload 1, 1), (.aload 0, 1), (.iload 4, 2), (.sipush (1), 1), (.iadd, 1), (.faload, 1), (.aload 0, 1), (.iload 4, 2), (.sipush (2), 1), (.iadd, 1), (.faload, 1), (.aload 0, 1), (.iload 4, 2), (.sipush (3), 1), (.iadd, 1), (.faload, 1), (.aload 3, 1), (.ret 4485, 3), (.istore 5, 2), (.aload 2, 1), (.aload 0, 1), (.iload 4, 2), (.sipush (1), 1), (.iadd, 1), (.faload, 1), (.aload 0, 1), (.iload 4, 2), (.sipush (2), 1), (.iadd, 1), (.faload, 1), (.aload 0, 1), (.iload 4, 2), (.sipush (3), 1), (.iadd, 1), (.faload, 1), (.multianewarray 221 71, 3), (.lstore 6, 2), (.aload 2, 1), (.multianewarray 138 23, 3), (.iload 5, 2), (.if_icmp .eq 93, 3), (.sipush (0), 1), (.ireturn, 1)]),
  (2022, [(.iload 5, 2), (.ifCond .ne 94, 3), (.aload 3, 1), (.sipush (0), 1), (.laload, 1), (.lload 6, 2), (.lcmp, 1), (.ifCond .eq 94, 3), (.sipush (0), 1), (.ireturn, 1)]),
  (2038, [(.goto 143, 3)]),
  (2041, [(.aload 1, 1), (.aload 0, 1), (.iload 4, 2), (.sipush (1), 1), (.iadd, 1), (.faload, 1), (.aload 0, 1), (.iload 4, 2), (.sipush (2), 1), (.iadd, 1), (.faload, 1), (.aload 0, 1), (.iload 4, 2), (.sipush (3), 1), (.iadd, 1), (.faload, 1), (.aload 0, 1), (.iload 4, 2), (.sipush (4), 1), (.iadd, 1), (.faload, 1), (.aload 3, 1), (.ret 4502, 3), (.istore 5, 2), (.aload 2, 1), (.aload 0, 1), (.iload 4, 2), (.sipush (1), 1), (.iadd, 1), (.faload, 1), (.aload 0, 1), (.iload 4, 2), (.sipush (2), 1), (.iadd, 1), (.faload, 1), (.aload 0, 1), (.iload 4, 2), (.sipush (3), 1), (.iadd, 1), (.faload, 1), (.aload 0, 1), (.iload 4, 2), (.sipush (4), 1), (.iadd, 1), (.faload, 1), (.multianewarray 222 87, 3), (.lstore 6, 2), (.aload 2, 1), (.multianewarray 138 23, 3), (.iload 5, 2), (.if_icmp .eq 96, 3), (.sipush (0), 1), (.ireturn, 1)])]
def bL_law12 : List (Nat × ac_I) := [(2113, [(.iload 5, 2), (.ifCond .ne 97, 3), (.aload 3, 1), (.sipush (0), 1), (.laload, 1), (.lload 6, 2), (.lcmp, 1), (.ifCond .eq 97, 3), (.sipush (0), 1), (.ireturn, 1)]),
  (2129, [(.goto 143, 3)]),
  (2132, [(.aload 1, 1), (.aload 0, 1), (.iload 4, 2), (.sipush (1), 1), (.iadd, 1), (.faload, 1), (.aload 0, 1), (.iload 4, 2), (.sipush (2), 1), (.iadd, 1), (.faload, 1), (.aload 3, 1), (.ret 4516, 3), (.istore 5, 2), (.aload 2, 1), (.aload 0, 1), (.iload 4, 2), (.sipush (1), 1), (.iadd, 1), (.faload, 1), (.aload 0, 1), (.iload 4, 2), (.sipush (2), 1), (.iadd, 1), (.faload, 1), (.multianewarray 224 55, 3), (.istore 6, 2), (.aload 2, 1), (.multianewarray 138 23, 3), (.iload 5, 2), (.if_icmp .eq 99, 3), (.sipush (0), 1), (.ireturn, 1)]),
  (2180, [(.iload 5, 2), (.ifCond .ne 100, 3), (.aload 3, 1), (.sipush (0), 1), (.laload, 1), (.iload 6, 2), (.i2l, 1), (.lcmp, 1), (.ifCond .eq 100, 3), (.sipush (0), 1), (.ireturn, 1)]),
  (2197, [(.goto 143, 3)]),
  (2200, [(.aload 1, 1), (.aload 0, 1), (.iload 4, 2), (.sipush (1), 1), (.iadd, 1), (.faload, 1), (.aload 3, 1), (.ret 4531, 3), (.istore 5, 2), (.aload 2, 1), (.aload 0, 1), (.iload 4, 2), (.sipush (1), 1), (.iadd, 1), (.faload, 1), (.multianewarray 227 39, 3), (.istore 6, 2), (.aload 2, 1), (.multianewarray 138 23, 3), (.iload 5, 2), (.if_icmp .eq 102, 3), (.sipush (0), 1), (.ireturn, 1)]),
  (2236, [(.iload 5, 2), (.ifCond .ne 103, 3), (.aload 3, 1), (.sipush (0), 1), (.laload, 1), (.iload 6, 2), (.i2l, 1), (.lcmp, 1), (.ifCond .eq 103, 3), (.sipush (0), 1), (.ireturn, 1)])]
def bL_law13 : List (Nat × ac_I) := [(2253, [(.goto 143, 3)]),
  (2256, [(.aload 1, 1), (.aload 0, 1), (.iload 4, 2), (.sipush (1), 1), (.iadd, 1), (.faload, 1), (.aload 0, 1), (.iload 4, 2), (.sipush (2), 1), (.iadd, 1), (.faload, 1), (.aload 3, 1), (.ret 4548, 3), (.istore 5, 2), (.aload 2, 1), (.aload 0, 1), (.iload 4, 2), (.sipush (1), 1), (.iadd, 1), (.faload, 1), (.aload 0, 1), (.iload 4, 2), (.sipush (2), 1), (.iadd, 1), (.faload, 1), (.multianewarray 228 55, 3), (.istore 6, 2), (.aload 2, 1), (.multianewarray 138 23, 3), (.iload 5, 2), (.if_icmp .eq 105, 3), (.sipush (0), 1), (.ireturn, 1)]),
  (2304, [(.iload 5, 2), (.ifCond .ne 106, 3), (.aload 3, 1), (.sipush (0), 1), (.laload, 1), (.iload 6, 2), (.i2l, 1), (.lcmp, 1), (.ifCond .eq 106, 3), (.sipush (0), 1), (.ireturn, 1)]),
  (2321, [(.goto 143, 3)]),
  (2324, [(.aload 1, 1), (.aload 0, 1), (.iload 4, 2), (.sipush (1), 1), (.iadd, 1), (.faload, 1), (.aload 3, 1), (.ret 4563, 3), (.istore 5, 2), (.aload 2, 1), (.aload 0, 1), (.iload 4, 2), (.sipush (1), 1), (.iadd, 1), (.faload, 1), (.multianewarray 229 39, 3), (.istore 6, 2), (.aload 2, 1), (.multianewarray 138 23, 3), (.iload 5, 2), (.if_icmp .eq 108, 3), (.sipush (0), 1), (.ireturn, 1)]),
  (2360, [(.iload 5, 2), (.ifCond .ne 109, 3), (.aload 3, 1), (.sipush (0), 1), (.laload, 1), (.iload 6, 2), (.i2l, 1), (.lcmp, 1), (.ifCond .eq 109, 3), (.sipush (0), 1), (.ireturn, 1)]),
  (2377, [(.goto 143, 3)]),
  (2380, [(.aload 1, 1), (.aload 0, 1), (.iload 4, 2), (.sipush (1), 1), (.iadd, 1), (.faload, 1), (.aload 0, 1), (.iload 4, 2), (.sipush (2), 1), (.iadd, 1), (.faload, 1), (.aload 0, 1), (.iload 4, 2), (.sipush (3), 1), (.iadd, 1), (.faload, 1), (.aload 3, 1), (.ret 4581, 3), (.istore 5, 2), (.aload 2, 1), (.aload 0, 1), (.iload 4, 2), (.sipush (1), 1), (.iadd, 1), (.faload, 1), (.aload 0, 1), (.iload 4, 2), (.sipush (2), 1), (.iadd, 1), (.faload, 1), (.aload 0, 1), (.iload 4, 2), (.sipush (3), 1), (.iadd, 1), (.faload, 1), (.multianewarray 231 71, 3), (.istore 6, 2), (.aload 2, 1), (.multianewarray 138 23, 3), (.iload 5, 2), (.if_icmp .eq 111, 3), (.sipush (0), 1), (.ireturn, 1)])]
def bL_law14 : List (Nat × ac_I) := [(2440, [(.iload 5, 2), (.ifCond .ne 112, 3), (.aload 3, 1), (.sipush (0), 1), (.laload, 1), (.iload 6, 2), (.i2l, 1), (.lcmp, 1), (.ifCond .eq 112, 3), (.sipush (0), 1), (.ireturn, 1)]),
  (2457, [(.goto 143, 3)]),
  (2460, [(.aload 1, 1), (.aload 0, 1), (.iload 4, 2), (.sipush (1), 1), (.iadd, 1), (.faload, 1), (.aload 3, 1), (.ret 4595, 3), (.istore 5, 2), (.aload 2, 1), (.aload 0, 1), (.iload 4, 2), (.sipush (1), 1), (.iadd, 1), (.faload, 1), (.multianewarray 232 39, 3), (.istore 6, 2), (.aload 2, 1), (.multianewarray 138 23, 3), (.iload 5, 2), (.if_icmp .eq 114, 3), (.sipush (0), 1), (.ireturn, 1)]),
  (2496, [(.iload 5, 2), (.ifCond .ne 115, 3), (.aload 3, 1), (.sipush (0), 1), (.laload, 1), (.iload 6, 2), (.i2l, 1), (.lcmp, 1), (.ifCond .eq 115, 3), (.sipush (0), 1), (.ireturn, 1)]),
  (2513, [(.goto 143, 3)]),
  (2516, [(.aload 1, 1), (.aload 0, 1), (.iload 4, 2), (.sipush (1), 1), (.iadd, 1), (.faload, 1), (.multianewarray 112 38, 3), (.aload 2, 1), (.aload 0, 1), (.iload 4, 2), (.sipush (1), 1), (.iadd, 1), (.faload, 1), (.multianewarray 233 39, 3), (.if_icmp .eq 143, 3), (.sipush (0), 1), (.ireturn, 1)]),
  (2541, [(.aload 1, 1), (.aload 0, 1), (.iload 4, 2), (.sipush (1), 1), (.iadd, 1), (.faload, 1), (.aload 0, 1), (.iload 4, 2), (.sipush (2), 1), (.iadd, 1), (.faload, 1), (.aload 3, 1), (.ret 4612, 3), (.istore 5, 2), (.aload 2, 1), (.aload 0, 1), (.iload 4, 2), (.sipush (1), 1), (.iadd, 1), (.faload, 1), (.aload 0, 1), (.iload 4, 2), (.sipush (2), 1), (.iadd, 1), (.faload, 1), (.multianewarray 235 55, 3), (.istore 6, 2), (.aload 2, 1), (.multianewarray 138 23, 3), (.iload 5, 2), (.if_icmp .eq 118, 3), (.sipush (0), 1), (.ireturn, 1)])]
def bL_law15 : List (Nat × ac_I) := [(2589, [(.iload 5, 2), (.ifCond .ne 119, 3), (.aload 3, 1), (.sipush (0), 1), (.laload, 1), (.iload 6, 2), (.i2l, 1), (.lcmp, 1), (.ifCond .eq 119, 3), (.sipush (0), 1), (.ireturn, 1)]),
  (2606, [(.goto 143, 3)]),
  (2609, [(.aload 1, 1), (.multianewarray 114 22, 3), (.aload 2, 1), (.multianewarray 236 23, 3), (.if_icmp .eq 143, 3), (.sipush (0), 1), (.ireturn, 1)]),
  (2622, [(.aload 1, 1), (.aload 0, 1), (.iload 4, 2), (.sipush (1), 1), (.iadd, 1), (.faload, 1), (.aload 0, 1), (.iload 4, 2), (.sipush (2), 1), (.iadd, 1), (.faload, 1), (.aload 3, 1), (.ret 4628, 3), (.istore 5, 2), (.aload 2, 1), (.aload 0, 1), (.iload 4, 2), (.sipush (1), 1), (.iadd, 1), (.faload, 1), (.aload 0, 1), (.iload 4, 2), (.sipush (2), 1), (.iadd, 1), (.faload, 1), (.multianewarray 237 55, 3), (.istore 6, 2), (.aload 2, 1), (.multianewarray 138 23, 3), (.iload 5, 2), (.if_icmp .eq 122, 3), (.sipush (0), 1), (.ireturn, 1)]),
  (2670, [(.iload 5, 2), (.ifCond .ne 123, 3), (.aload 3, 1), (.sipush (0), 1), (.laload, 1), (.iload 6, 2), (.i2l, 1), (.lcmp, 1), (.ifCond .eq 123, 3), (.sipush (0), 1), (.ireturn, 1)]),
  (2687, [(.goto 143, 3)]),
  (2690, [(.aload 1, 1), (.aload 0, 1), (.iload 4, 2), (.sipush (1), 1), (.iadd, 1), (.faload, 1), (.aload 3, 1), (.ret 4643, 3), (.istore 5, 2), (.aload 2, 1), (.aload 0, 1), (.iload 4, 2), (.sipush (1), 1), (.iadd, 1), (.faload, 1), (.multianewarray 239 39, 3), (.istore 6, 2), (.aload 2, 1), (.multianewarray 138 23, 3), (.iload 5, 2), (.if_icmp .eq 125, 3), (.sipush (0), 1), (.ireturn, 1)]),
  (2726, [(.iload 5, 2), (.ifCond .ne 126, 3), (.aload 3, 1), (.sipush (0), 1), (.laload, 1), (.iload 6, 2), (.i2l, 1), (.lcmp, 1), (.ifCond .eq 126, 3), (.sipush (0), 1), (.ireturn, 1)])]
def bL_law16 : List (Nat × ac_I) := [(2743, [(.goto 143, 3)]),
  (2746, [(.aload 1, 1), (.aload 0, 1), (.iload 4, 2), (.sipush (1), 1), (.iadd, 1), (.faload, 1), (.aload 3, 1), (.ret 4659, 3), (.istore 5, 2), (.aload 2, 1), (.aload 0, 1), (.iload 4, 2), (.sipush (1), 1), (.iadd, 1), (.faload, 1), (.multianewarray 240 39, 3), (.istore 6, 2), (.aload 2, 1), (.multianewarray 138 23, 3), (.iload 5, 2), (.if_icmp .eq 128, 3), (.sipush (0), 1), (.ireturn, 1)]),
  (2782, [(.iload 5, 2), (.ifCond .ne 129, 3), (.aload 3, 1), (.sipush (0), 1), (.laload, 1), (.iload 6, 2), (.i2l, 1), (.lcmp, 1), (.ifCond .eq 129, 3), (.sipush (0), 1), (.ireturn, 1)]),
  (2799, [(.goto 143, 3)]),
  (2802, [(.aload 1, 1), (.aload 0, 1), (.iload 4, 2), (.sipush (1), 1), (.iadd, 1), (.faload, 1), (.aload 0, 1), (.iload 4, 2), (.sipush (2), 1), (.iadd, 1), (.faload, 1), (.aload 0, 1), (.iload 4, 2), (.sipush (3), 1), (.iadd, 1), (.faload, 1), (.ret 4676, 3), (.istore 5, 2), (.aload 2, 1), (.aload 0, 1), (.iload 4, 2), (.sipush (1), 1), (.iadd, 1), (.faload, 1), (.aload 0, 1), (.iload 4, 2), (.sipush (2), 1), (.iadd, 1), (.faload, 1), (.aload 0, 1), (.iload 4, 2), (.sipush (3), 1), (.iadd, 1), (.faload, 1), (.multianewarray 242 71, 3), (.aload 2, 1), (.multianewarray 138 23, 3), (.iload 5, 2), (.if_icmp .eq 131, 3), (.sipush (0), 1), (.ireturn, 1)]),
  (2859, [(.goto 143, 3)]),
  (2862, [(.aload 1, 1), (.aload 0, 1), (.iload 4, 2), (.sipush (1), 1), (.iadd, 1), (.faload, 1), (.aload 0, 1), (.iload 4, 2), (.sipush (2), 1), (.iadd, 1), (.faload, 1), (.aload 0, 1), (.iload 4, 2), (.sipush (3), 1), (.iadd, 1), (.faload, 1), (.i2l, 1), (.sipush (32), 2), (.lshl, 1), (.aload 0, 1), (.iload 4, 2), (.sipush (4), 1), (.iadd, 1), (.faload, 1), (.i2l, 1), (.ldc2_w 4294967295, 3), (.land, 1), (.lor, 1), (.aload 3, 1), (.ret 4693, 3), (.istore 5, 2), (.aload 2, 1), (.aload 0, 1), (.iload 4, 2), (.sipush (1), 1), (.iadd, 1), (.faload, 1), (.aload 0, 1), (.iload 4, 2), (.sipush (2), 1), (.iadd, 1), (.faload, 1), (.aload 0, 1), (.iload 4, 2), (.sipush (3), 1), (.iadd, 1), (.faload, 1), (.i2l, 1), (.sipush (32), 2), (.lshl, 1), (.aload 0, 1), (.iload 4, 2), (.sipush (4), 1), (.iadd, 1), (.faload, 1), (.i2l, 1), (.ldc2_w 4294967295, 3), (.land, 1), (.lor, 1), (.multianewarray 244 71, 3), (.lstore 6, 2), (.aload 2, 1), (.multianewarray 138 23, 3), (.iload 5, 2), (.if_icmp .eq 133, 3), (.sipush (0), 1), (.ireturn, 1)])]
def bL_law17 : List (Nat × ac_I) := [(2954, [(.iload 5, 2), (.ifCond .ne 134, 3), (.aload 3, 1), (.sipush (0), 1), (.laload, 1), (.lload 6, 2), (.lcmp, 1), (.ifCond .eq 134, 3), (.sipush (0), 1), (.ireturn, 1)]),
  (2970, [(.goto 143, 3)]),
  (2973, [(.aload 1, 1), (.aload 0, 1), (.iload 4, 2), (.sipush (1), 1), (.iadd, 1), (.faload, 1), (.aload 3, 1), (.ret 4707, 3), (.istore 5, 2), (.aload 2, 1), (.aload 0, 1), (.iload 4, 2), (.sipush (1), 1), (.iadd, 1), (.faload, 1), (.multianewarray 245 39, 3), (.istore 6, 2), (.aload 2, 1), (.multianewarray 138 23, 3), (.iload 5, 2), (.if_icmp .eq 136, 3), (.sipush (0), 1), (.ireturn, 1)]),
  (3009, [(.iload 5, 2), (.ifCond .ne 137, 3), (.aload 3, 1), (.sipush (0), 1), (.laload, 1), (.iload 6, 2), (.i2l, 1), (.lcmp, 1), (.ifCond .eq 137, 3), (.sipush (0), 1), (.ireturn, 1)]),
  (3026, [(.goto 143, 3)]),
  (3029, [(.aload 1, 1), (.aload 0, 1), (.iload 4, 2), (.sipush (1), 1), (.iadd, 1), (.faload, 1), (.ret 4722, 3), (.istore 5, 2), (.aload 2, 1), (.aload 0, 1), (.iload 4, 2), (.sipush (1), 1), (.iadd, 1), (.faload, 1), (.multianewarray 246 39, 3), (.aload 2, 1), (.multianewarray 138 23, 3), (.iload 5, 2), (.if_icmp .eq 139, 3), (.sipush (0), 1), (.ireturn, 1)]),
  (3062, [(.goto 143, 3)]),
  (3065, [(.aload 1, 1), (.aload 0, 1), (.iload 4, 2), (.sipush (1), 1), (.iadd, 1), (.faload, 1), (.ret 4738, 3), (.istore 5, 2), (.aload 2, 1), (.aload 0, 1), (.iload 4, 2), (.sipush (1), 1), (.iadd, 1), (.faload, 1), (.multianewarray 247 39, 3), (.aload 2, 1), (.multianewarray 138 23, 3), (.iload 5, 2), (.if_icmp .eq 141, 3), (.sipush (0), 1), (.ireturn, 1)]),
  (3098, [(.goto 143, 3)])]
def bL_law18 : List (Nat × ac_I) := [(3101, [(.aload 1, 1), (.aload 0, 1), (.iload 4, 2), (.sipush (1), 1), (.iadd, 1), (.faload, 1), (.multianewarray 123 38, 3), (.aload 2, 1), (.aload 0, 1), (.iload 4, 2), (.sipush (1), 1), (.iadd, 1), (.faload, 1), (.multianewarray 248 39, 3), (.if_icmp .eq 143, 3), (.sipush (0), 1), (.ireturn, 1)]),
  (3126, [(.iinc 4 (6), 3), (.goto 1, 3)]),
  (3132, [(.sipush (1), 1), (.ireturn, 1)])]
def bL_law : List (Nat × ac_I) := bL_law0 ++ (bL_law1 ++ (bL_law2 ++ (bL_law3 ++ (bL_law4 ++ (bL_law5 ++ (bL_law6 ++ (bL_law7 ++ (bL_law8 ++ (bL_law9 ++ (bL_law10 ++ (bL_law11 ++ (bL_law12 ++ (bL_law13 ++ (bL_law14 ++ (bL_law15 ++ (bL_law16 ++ (bL_law17 ++ (bL_law18))))))))))))))))))
def mL_law : ac_M := (yL_law, cL_law, 8, ret, 8, 7, 1, (0, 0), [], bL_law, [], [])
def methods : List ac_M := ms0 ++ (ms1 ++ (ms2 ++ (ms3 ++ (ms4 ++ (ms5 ++ (ms6 ++ (ms7 ++ (ms8 ++ (ms9 ++ (ms10))))))))))
def kmax : Nat := 297
set_option maxRecDepth 20000 in
theorem kX0_init : methods[0]? = some mX0_init := rfl
set_option maxRecDepth 20000 in
theorem kX0_clear : methods[1]? = some mX0_clear := rfl
set_option maxRecDepth 20000 in
theorem kX0_join : methods[2]? = some mX0_join := rfl
set_option maxRecDepth 20000 in
theorem kX0_weigh : methods[3]? = some mX0_weigh := rfl
set_option maxRecDepth 20000 in
theorem kX0_become : methods[4]? = some mX0_become := rfl
set_option maxRecDepth 20000 in
theorem kX0_giveRule : methods[5]? = some mX0_giveRule := rfl
set_option maxRecDepth 20000 in
theorem kX0_addWeek : methods[6]? = some mX0_addWeek := rfl
set_option maxRecDepth 20000 in
theorem kX0_everyone : methods[7]? = some mX0_everyone := rfl
set_option maxRecDepth 20000 in
theorem kX0_has : methods[8]? = some mX0_has := rfl
set_option maxRecDepth 20000 in
theorem kX0_lastSet : methods[9]? = some mX0_lastSet := rfl
set_option maxRecDepth 20000 in
theorem kX0_meets : methods[10]? = some mX0_meets := rfl
set_option maxRecDepth 20000 in
theorem kX0_payOf : methods[11]? = some mX0_payOf := rfl
set_option maxRecDepth 20000 in
theorem kX0_gainOf : methods[12]? = some mX0_gainOf := rfl
set_option maxRecDepth 20000 in
theorem kX0_payOfAll : methods[13]? = some mX0_payOfAll := rfl
set_option maxRecDepth 20000 in
theorem kX0_costOfAll : methods[14]? = some mX0_costOfAll := rfl
set_option maxRecDepth 20000 in
theorem kX0_bribeFor : methods[15]? = some mX0_bribeFor := rfl
set_option maxRecDepth 20000 in
theorem kX0_eager : methods[16]? = some mX0_eager := rfl
set_option maxRecDepth 20000 in
theorem kX0_isStrong : methods[17]? = some mX0_isStrong := rfl
set_option maxRecDepth 20000 in
theorem kX0_thoughts : methods[18]? = some mX0_thoughts := rfl
set_option maxRecDepth 20000 in
theorem kX0_hatsAhead : methods[19]? = some mX0_hatsAhead := rfl
set_option maxRecDepth 20000 in
theorem kX0_comesBySeeing : methods[20]? = some mX0_comesBySeeing := rfl
set_option maxRecDepth 20000 in
theorem kX0_hasLearner : methods[21]? = some mX0_hasLearner := rfl
set_option maxRecDepth 20000 in
theorem kX0_roundOfWeeks : methods[22]? = some mX0_roundOfWeeks := rfl
set_option maxRecDepth 20000 in
theorem kX0_leastMultiple : methods[23]? = some mX0_leastMultiple := rfl
set_option maxRecDepth 20000 in
theorem kX0_weeksOf : methods[24]? = some mX0_weeksOf := rfl
set_option maxRecDepth 20000 in
theorem kX0_dinnersOf : methods[25]? = some mX0_dinnersOf := rfl
set_option maxRecDepth 20000 in
theorem kX0_weeksMet : methods[26]? = some mX0_weeksMet := rfl
set_option maxRecDepth 20000 in
theorem kX0_weeksOfJust : methods[27]? = some mX0_weeksOfJust := rfl
set_option maxRecDepth 20000 in
theorem kX0_guessOf : methods[28]? = some mX0_guessOf := rfl
set_option maxRecDepth 20000 in
theorem kX0_comersUntil : methods[29]? = some mX0_comersUntil := rfl
set_option maxRecDepth 20000 in
theorem kX0_mostOftenUntil : methods[30]? = some mX0_mostOftenUntil := rfl
set_option maxRecDepth 20000 in
theorem kX1_init : methods[31]? = some mX1_init := rfl
set_option maxRecDepth 20000 in
theorem kX1_start : methods[32]? = some mX1_start := rfl
set_option maxRecDepth 20000 in
theorem kX1_recall : methods[33]? = some mX1_recall := rfl
set_option maxRecDepth 20000 in
theorem kX1_go : methods[34]? = some mX1_go := rfl
set_option maxRecDepth 20000 in
theorem kX1_comersInFog : methods[35]? = some mX1_comersInFog := rfl
set_option maxRecDepth 20000 in
theorem kX1_comers : methods[36]? = some mX1_comers := rfl
set_option maxRecDepth 20000 in
theorem kX1_comes : methods[37]? = some mX1_comes := rfl
set_option maxRecDepth 20000 in
theorem kX1_hatsSeen : methods[38]? = some mX1_hatsSeen := rfl
set_option maxRecDepth 20000 in
theorem kX1_meetings : methods[39]? = some mX1_meetings := rfl
set_option maxRecDepth 20000 in
theorem kX1_payAhead : methods[40]? = some mX1_payAhead := rfl
set_option maxRecDepth 20000 in
theorem kX2_init : methods[41]? = some mX2_init := rfl
set_option maxRecDepth 20000 in
theorem kX2_lay : methods[42]? = some mX2_lay := rfl
set_option maxRecDepth 20000 in
theorem kX2_read : methods[43]? = some mX2_read := rfl
set_option maxRecDepth 20000 in
theorem kX2_readLine : methods[44]? = some mX2_readLine := rfl
set_option maxRecDepth 20000 in
theorem kX2_readMember : methods[45]? = some mX2_readMember := rfl
set_option maxRecDepth 20000 in
theorem kX2_ruleHere : methods[46]? = some mX2_ruleHere := rfl
set_option maxRecDepth 20000 in
theorem kX2_wordOf : methods[47]? = some mX2_wordOf := rfl
set_option maxRecDepth 20000 in
theorem kX2_takeSemicolon : methods[48]? = some mX2_takeSemicolon := rfl
set_option maxRecDepth 20000 in
theorem kX2_takeNumber : methods[49]? = some mX2_takeNumber := rfl
set_option maxRecDepth 20000 in
theorem kX2_refuseMisfit : methods[50]? = some mX2_refuseMisfit := rfl
set_option maxRecDepth 20000 in
theorem kX2_refuse : methods[51]? = some mX2_refuse := rfl
set_option maxRecDepth 20000 in
theorem kX2_isWord : methods[52]? = some mX2_isWord := rfl
set_option maxRecDepth 20000 in
theorem kX2_advance : methods[53]? = some mX2_advance := rfl
set_option maxRecDepth 20000 in
theorem kX2_isLetter : methods[54]? = some mX2_isLetter := rfl
set_option maxRecDepth 20000 in
theorem kX2_isDigit : methods[55]? = some mX2_isDigit := rfl
set_option maxRecDepth 20000 in
theorem kX3_init : methods[56]? = some mX3_init := rfl
set_option maxRecDepth 20000 in
theorem kX3_lay : methods[57]? = some mX3_lay := rfl
set_option maxRecDepth 20000 in
theorem kX3_put : methods[58]? = some mX3_put := rfl
set_option maxRecDepth 20000 in
theorem kX3_cut : methods[59]? = some mX3_cut := rfl
set_option maxRecDepth 20000 in
theorem kX4_init : methods[60]? = some mX4_init := rfl
set_option maxRecDepth 20000 in
theorem kX4_play : methods[61]? = some mX4_play := rfl
set_option maxRecDepth 20000 in
theorem kX4_comesAt : methods[62]? = some mX4_comesAt := rfl
set_option maxRecDepth 20000 in
theorem kX4_firstOf : methods[63]? = some mX4_firstOf := rfl
set_option maxRecDepth 20000 in
theorem kX5_init : methods[64]? = some mX5_init := rfl
set_option maxRecDepth 20000 in
theorem kX5_find : methods[65]? = some mX5_find := rfl
set_option maxRecDepth 20000 in
theorem kX5_begin : methods[66]? = some mX5_begin := rfl
set_option maxRecDepth 20000 in
theorem kX5_isAtRest : methods[67]? = some mX5_isAtRest := rfl
set_option maxRecDepth 20000 in
theorem kX5_payIn : methods[68]? = some mX5_payIn := rfl
set_option maxRecDepth 20000 in
theorem kX5_turnOn : methods[69]? = some mX5_turnOn := rfl
set_option maxRecDepth 20000 in
theorem kX6_init : methods[70]? = some mX6_init := rfl
set_option maxRecDepth 20000 in
theorem kX6_feed : methods[71]? = some mX6_feed := rfl
set_option maxRecDepth 20000 in
theorem kX6_club : methods[72]? = some mX6_club := rfl
set_option maxRecDepth 20000 in
theorem kX6_fault : methods[73]? = some mX6_fault := rfl
set_option maxRecDepth 20000 in
theorem kX6_member : methods[74]? = some mX6_member := rfl
set_option maxRecDepth 20000 in
theorem kX6_quota : methods[75]? = some mX6_quota := rfl
set_option maxRecDepth 20000 in
theorem kX6_week : methods[76]? = some mX6_week := rfl
set_option maxRecDepth 20000 in
theorem kX6_told : methods[77]? = some mX6_told := rfl
set_option maxRecDepth 20000 in
theorem kX6_back : methods[78]? = some mX6_back := rfl
set_option maxRecDepth 20000 in
theorem kX6_came : methods[79]? = some mX6_came := rfl
set_option maxRecDepth 20000 in
theorem kX6_met : methods[80]? = some mX6_met := rfl
set_option maxRecDepth 20000 in
theorem kX6_next : methods[81]? = some mX6_next := rfl
set_option maxRecDepth 20000 in
theorem kX6_hats : methods[82]? = some mX6_hats := rfl
set_option maxRecDepth 20000 in
theorem kX6_thought : methods[83]? = some mX6_thought := rfl
set_option maxRecDepth 20000 in
theorem kX6_settled : methods[84]? = some mX6_settled := rfl
set_option maxRecDepth 20000 in
theorem kX6_judge : methods[85]? = some mX6_judge := rfl
set_option maxRecDepth 20000 in
theorem kX6_gain : methods[86]? = some mX6_gain := rfl
set_option maxRecDepth 20000 in
theorem kX6_rests : methods[87]? = some mX6_rests := rfl
set_option maxRecDepth 20000 in
theorem kX6_rest : methods[88]? = some mX6_rest := rfl
set_option maxRecDepth 20000 in
theorem kX6_strong : methods[89]? = some mX6_strong := rfl
set_option maxRecDepth 20000 in
theorem kX6_strongs : methods[90]? = some mX6_strongs := rfl
set_option maxRecDepth 20000 in
theorem kX6_inTurn : methods[91]? = some mX6_inTurn := rfl
set_option maxRecDepth 20000 in
theorem kX6_turnsBy : methods[92]? = some mX6_turnsBy := rfl
set_option maxRecDepth 20000 in
theorem kX6_takeOrder : methods[93]? = some mX6_takeOrder := rfl
set_option maxRecDepth 20000 in
theorem kX6_two : methods[94]? = some mX6_two := rfl
set_option maxRecDepth 20000 in
theorem kX6_bestRest : methods[95]? = some mX6_bestRest := rfl
set_option maxRecDepth 20000 in
theorem kX6_pay : methods[96]? = some mX6_pay := rfl
set_option maxRecDepth 20000 in
theorem kX6_pivots : methods[97]? = some mX6_pivots := rfl
set_option maxRecDepth 20000 in
theorem kX6_replies : methods[98]? = some mX6_replies := rfl
set_option maxRecDepth 20000 in
theorem kX6_bribe : methods[99]? = some mX6_bribe := rfl
set_option maxRecDepth 20000 in
theorem kX6_leastBribe : methods[100]? = some mX6_leastBribe := rfl
set_option maxRecDepth 20000 in
theorem kX6_contract : methods[101]? = some mX6_contract := rfl
set_option maxRecDepth 20000 in
theorem kX6_odds : methods[102]? = some mX6_odds := rfl
set_option maxRecDepth 20000 in
theorem kX6_bestOdds : methods[103]? = some mX6_bestOdds := rfl
set_option maxRecDepth 20000 in
theorem kX6_chances : methods[104]? = some mX6_chances := rfl
set_option maxRecDepth 20000 in
theorem kX6_hope : methods[105]? = some mX6_hope := rfl
set_option maxRecDepth 20000 in
theorem kX6_ahead : methods[106]? = some mX6_ahead := rfl
set_option maxRecDepth 20000 in
theorem kX6_ring : methods[107]? = some mX6_ring := rfl
set_option maxRecDepth 20000 in
theorem kX6_worth : methods[108]? = some mX6_worth := rfl
set_option maxRecDepth 20000 in
theorem kX6_bestQuota : methods[109]? = some mX6_bestQuota := rfl
set_option maxRecDepth 20000 in
theorem kX6_bestRule : methods[110]? = some mX6_bestRule := rfl
set_option maxRecDepth 20000 in
theorem kX6_streak : methods[111]? = some mX6_streak := rfl
set_option maxRecDepth 20000 in
theorem kX6_tally : methods[112]? = some mX6_tally := rfl
set_option maxRecDepth 20000 in
theorem kX6_together : methods[113]? = some mX6_together := rfl
set_option maxRecDepth 20000 in
theorem kX6_friends : methods[114]? = some mX6_friends := rfl
set_option maxRecDepth 20000 in
theorem kX6_doubts : methods[115]? = some mX6_doubts := rfl
set_option maxRecDepth 20000 in
theorem kX6_cook : methods[116]? = some mX6_cook := rfl
set_option maxRecDepth 20000 in
theorem kX6_guess : methods[117]? = some mX6_guess := rfl
set_option maxRecDepth 20000 in
theorem kX6_tray : methods[118]? = some mX6_tray := rfl
set_option maxRecDepth 20000 in
theorem kX6_write : methods[119]? = some mX6_write := rfl
set_option maxRecDepth 20000 in
theorem kX6_pour : methods[120]? = some mX6_pour := rfl
set_option maxRecDepth 20000 in
theorem kX6_image : methods[121]? = some mX6_image := rfl
set_option maxRecDepth 20000 in
theorem kX6_restore : methods[122]? = some mX6_restore := rfl
set_option maxRecDepth 20000 in
theorem kX6_count : methods[123]? = some mX6_count := rfl
set_option maxRecDepth 20000 in
theorem kX6_requireWithin : methods[124]? = some mX6_requireWithin := rfl
set_option maxRecDepth 20000 in
theorem kX6_requireChance : methods[125]? = some mX6_requireChance := rfl
set_option maxRecDepth 20000 in
theorem kX6_requireChances : methods[126]? = some mX6_requireChances := rfl
set_option maxRecDepth 20000 in
theorem kX6_requireMember : methods[127]? = some mX6_requireMember := rfl
set_option maxRecDepth 20000 in
theorem kX6_requireWeek : methods[128]? = some mX6_requireWeek := rfl
set_option maxRecDepth 20000 in
theorem kX6_requireRoomForWeek : methods[129]? = some mX6_requireRoomForWeek := rfl
set_option maxRecDepth 20000 in
theorem kX6_requireSet : methods[130]? = some mX6_requireSet := rfl
set_option maxRecDepth 20000 in
theorem kX6_requireImage : methods[131]? = some mX6_requireImage := rfl
set_option maxRecDepth 20000 in
theorem kX6_requireTray : methods[132]? = some mX6_requireTray := rfl
set_option maxRecDepth 20000 in
theorem kX6_laidTray : methods[133]? = some mX6_laidTray := rfl
set_option maxRecDepth 20000 in
theorem kX6_waysThat : methods[134]? = some mX6_waysThat := rfl
set_option maxRecDepth 20000 in
theorem kX6_choose : methods[135]? = some mX6_choose := rfl
set_option maxRecDepth 20000 in
theorem kX6_power : methods[136]? = some mX6_power := rfl
set_option maxRecDepth 20000 in
theorem kX7_init : methods[137]? = some mX7_init := rfl
set_option maxRecDepth 20000 in
theorem kX7_thrown : methods[138]? = some mX7_thrown := rfl
set_option maxRecDepth 20000 in
theorem kX7_fails : methods[139]? = some mX7_fails := rfl
set_option maxRecDepth 20000 in
theorem kX7_within : methods[140]? = some mX7_within := rfl
set_option maxRecDepth 20000 in
theorem kX7_has : methods[141]? = some mX7_has := rfl
set_option maxRecDepth 20000 in
theorem kX7_size : methods[142]? = some mX7_size := rfl
set_option maxRecDepth 20000 in
theorem kX7_copies : methods[143]? = some mX7_copies := rfl
set_option maxRecDepth 20000 in
theorem kX7_begins : methods[144]? = some mX7_begins := rfl
set_option maxRecDepth 20000 in
theorem kX7_feed : methods[145]? = some mX7_feed := rfl
set_option maxRecDepth 20000 in
theorem kX7_see : methods[146]? = some mX7_see := rfl
set_option maxRecDepth 20000 in
theorem kX7_isLetter : methods[147]? = some mX7_isLetter := rfl
set_option maxRecDepth 20000 in
theorem kX7_isDigit : methods[148]? = some mX7_isDigit := rfl
set_option maxRecDepth 20000 in
theorem kX7_reads : methods[149]? = some mX7_reads := rfl
set_option maxRecDepth 20000 in
theorem kX7_blames : methods[150]? = some mX7_blames := rfl
set_option maxRecDepth 20000 in
theorem kX7_isWord : methods[151]? = some mX7_isWord := rfl
set_option maxRecDepth 20000 in
theorem kX7_took : methods[152]? = some mX7_took := rfl
set_option maxRecDepth 20000 in
theorem kX7_number : methods[153]? = some mX7_number := rfl
set_option maxRecDepth 20000 in
theorem kX7_ruleTold : methods[154]? = some mX7_ruleTold := rfl
set_option maxRecDepth 20000 in
theorem kX7_readMember : methods[155]? = some mX7_readMember := rfl
set_option maxRecDepth 20000 in
theorem kX7_readLine : methods[156]? = some mX7_readLine := rfl
set_option maxRecDepth 20000 in
theorem kX7_club : methods[157]? = some mX7_club := rfl
set_option maxRecDepth 20000 in
theorem kX7_fault : methods[158]? = some mX7_fault := rfl
set_option maxRecDepth 20000 in
theorem kX7_many : methods[159]? = some mX7_many := rfl
set_option maxRecDepth 20000 in
theorem kX7_all : methods[160]? = some mX7_all := rfl
set_option maxRecDepth 20000 in
theorem kX7_isMember : methods[161]? = some mX7_isMember := rfl
set_option maxRecDepth 20000 in
theorem kX7_isSet : methods[162]? = some mX7_isSet := rfl
set_option maxRecDepth 20000 in
theorem kX7_of : methods[163]? = some mX7_of := rfl
set_option maxRecDepth 20000 in
theorem kX7_meets : methods[164]? = some mX7_meets := rfl
set_option maxRecDepth 20000 in
theorem kX7_payOf : methods[165]? = some mX7_payOf := rfl
set_option maxRecDepth 20000 in
theorem kX7_member : methods[166]? = some mX7_member := rfl
set_option maxRecDepth 20000 in
theorem kX7_quota : methods[167]? = some mX7_quota := rfl
set_option maxRecDepth 20000 in
theorem kX7_lays : methods[168]? = some mX7_lays := rfl
set_option maxRecDepth 20000 in
theorem kX7_goesOn : methods[169]? = some mX7_goesOn := rfl
set_option maxRecDepth 20000 in
theorem kX7_learns : methods[170]? = some mX7_learns := rfl
set_option maxRecDepth 20000 in
theorem kX7_last : methods[171]? = some mX7_last := rfl
set_option maxRecDepth 20000 in
theorem kX7_thoughts : methods[172]? = some mX7_thoughts := rfl
set_option maxRecDepth 20000 in
theorem kX7_draw : methods[173]? = some mX7_draw := rfl
set_option maxRecDepth 20000 in
theorem kX7_seen : methods[174]? = some mX7_seen := rfl
set_option maxRecDepth 20000 in
theorem kX7_comes : methods[175]? = some mX7_comes := rfl
set_option maxRecDepth 20000 in
theorem kX7_goes : methods[176]? = some mX7_goes := rfl
set_option maxRecDepth 20000 in
theorem kX7_goesBy : methods[177]? = some mX7_goesBy := rfl
set_option maxRecDepth 20000 in
theorem kX7_week : methods[178]? = some mX7_week := rfl
set_option maxRecDepth 20000 in
theorem kX7_told : methods[179]? = some mX7_told := rfl
set_option maxRecDepth 20000 in
theorem kX7_back : methods[180]? = some mX7_back := rfl
set_option maxRecDepth 20000 in
theorem kX7_isWeek : methods[181]? = some mX7_isWeek := rfl
set_option maxRecDepth 20000 in
theorem kX7_came : methods[182]? = some mX7_came := rfl
set_option maxRecDepth 20000 in
theorem kX7_met : methods[183]? = some mX7_met := rfl
set_option maxRecDepth 20000 in
theorem kX7_next : methods[184]? = some mX7_next := rfl
set_option maxRecDepth 20000 in
theorem kX7_hats : methods[185]? = some mX7_hats := rfl
set_option maxRecDepth 20000 in
theorem kX7_thought : methods[186]? = some mX7_thought := rfl
set_option maxRecDepth 20000 in
theorem kX7_settled : methods[187]? = some mX7_settled := rfl
set_option maxRecDepth 20000 in
theorem kX7_trayFault : methods[188]? = some mX7_trayFault := rfl
set_option maxRecDepth 20000 in
theorem kX7_judge : methods[189]? = some mX7_judge := rfl
set_option maxRecDepth 20000 in
theorem kX7_gainOf : methods[190]? = some mX7_gainOf := rfl
set_option maxRecDepth 20000 in
theorem kX7_firstToGain : methods[191]? = some mX7_firstToGain := rfl
set_option maxRecDepth 20000 in
theorem kX7_payAll : methods[192]? = some mX7_payAll := rfl
set_option maxRecDepth 20000 in
theorem kX7_gain : methods[193]? = some mX7_gain := rfl
set_option maxRecDepth 20000 in
theorem kX7_rests : methods[194]? = some mX7_rests := rfl
set_option maxRecDepth 20000 in
theorem kX7_rest : methods[195]? = some mX7_rest := rfl
set_option maxRecDepth 20000 in
theorem kX7_isStrong : methods[196]? = some mX7_isStrong := rfl
set_option maxRecDepth 20000 in
theorem kX7_strong : methods[197]? = some mX7_strong := rfl
set_option maxRecDepth 20000 in
theorem kX7_strongs : methods[198]? = some mX7_strongs := rfl
set_option maxRecDepth 20000 in
theorem kX7_wants : methods[199]? = some mX7_wants := rfl
set_option maxRecDepth 20000 in
theorem kX7_byTurns : methods[200]? = some mX7_byTurns := rfl
set_option maxRecDepth 20000 in
theorem kX7_inTurn : methods[201]? = some mX7_inTurn := rfl
set_option maxRecDepth 20000 in
theorem kX7_turnsBy : methods[202]? = some mX7_turnsBy := rfl
set_option maxRecDepth 20000 in
theorem kX7_payOfTwo : methods[203]? = some mX7_payOfTwo := rfl
set_option maxRecDepth 20000 in
theorem kX7_restsInTwo : methods[204]? = some mX7_restsInTwo := rfl
set_option maxRecDepth 20000 in
theorem kX7_two : methods[205]? = some mX7_two := rfl
set_option maxRecDepth 20000 in
theorem kX7_bestRest : methods[206]? = some mX7_bestRest := rfl
set_option maxRecDepth 20000 in
theorem kX7_pay : methods[207]? = some mX7_pay := rfl
set_option maxRecDepth 20000 in
theorem kX7_pivots : methods[208]? = some mX7_pivots := rfl
set_option maxRecDepth 20000 in
theorem kX7_replies : methods[209]? = some mX7_replies := rfl
set_option maxRecDepth 20000 in
theorem kX7_bribeOf : methods[210]? = some mX7_bribeOf := rfl
set_option maxRecDepth 20000 in
theorem kX7_bribe : methods[211]? = some mX7_bribe := rfl
set_option maxRecDepth 20000 in
theorem kX7_costOf : methods[212]? = some mX7_costOf := rfl
set_option maxRecDepth 20000 in
theorem kX7_leastSet : methods[213]? = some mX7_leastSet := rfl
set_option maxRecDepth 20000 in
theorem kX7_leastBribe : methods[214]? = some mX7_leastBribe := rfl
set_option maxRecDepth 20000 in
theorem kX7_contract : methods[215]? = some mX7_contract := rfl
set_option maxRecDepth 20000 in
theorem kX7_waysBegin : methods[216]? = some mX7_waysBegin := rfl
set_option maxRecDepth 20000 in
theorem kX7_waysGo : methods[217]? = some mX7_waysGo := rfl
set_option maxRecDepth 20000 in
theorem kX7_waysOf : methods[218]? = some mX7_waysOf := rfl
set_option maxRecDepth 20000 in
theorem kX7_odds : methods[219]? = some mX7_odds := rfl
set_option maxRecDepth 20000 in
theorem kX7_bestOdds : methods[220]? = some mX7_bestOdds := rfl
set_option maxRecDepth 20000 in
theorem kX7_chances : methods[221]? = some mX7_chances := rfl
set_option maxRecDepth 20000 in
theorem kX7_hope : methods[222]? = some mX7_hope := rfl
set_option maxRecDepth 20000 in
theorem kX7_metAhead : methods[223]? = some mX7_metAhead := rfl
set_option maxRecDepth 20000 in
theorem kX7_ahead : methods[224]? = some mX7_ahead := rfl
set_option maxRecDepth 20000 in
theorem kX7_common : methods[225]? = some mX7_common := rfl
set_option maxRecDepth 20000 in
theorem kX7_rhythm : methods[226]? = some mX7_rhythm := rfl
set_option maxRecDepth 20000 in
theorem kX7_ring : methods[227]? = some mX7_ring := rfl
set_option maxRecDepth 20000 in
theorem kX7_worth : methods[228]? = some mX7_worth := rfl
set_option maxRecDepth 20000 in
theorem kX7_bestQuota : methods[229]? = some mX7_bestQuota := rfl
set_option maxRecDepth 20000 in
theorem kX7_isRuled : methods[230]? = some mX7_isRuled := rfl
set_option maxRecDepth 20000 in
theorem kX7_bestRule : methods[231]? = some mX7_bestRule := rfl
set_option maxRecDepth 20000 in
theorem kX7_streak : methods[232]? = some mX7_streak := rfl
set_option maxRecDepth 20000 in
theorem kX7_tally : methods[233]? = some mX7_tally := rfl
set_option maxRecDepth 20000 in
theorem kX7_bothCame : methods[234]? = some mX7_bothCame := rfl
set_option maxRecDepth 20000 in
theorem kX7_together : methods[235]? = some mX7_together := rfl
set_option maxRecDepth 20000 in
theorem kX7_friends : methods[236]? = some mX7_friends := rfl
set_option maxRecDepth 20000 in
theorem kX7_doubts : methods[237]? = some mX7_doubts := rfl
set_option maxRecDepth 20000 in
theorem kX7_guessOf : methods[238]? = some mX7_guessOf := rfl
set_option maxRecDepth 20000 in
theorem kX7_cook : methods[239]? = some mX7_cook := rfl
set_option maxRecDepth 20000 in
theorem kX7_guess : methods[240]? = some mX7_guess := rfl
set_option maxRecDepth 20000 in
theorem kX7_isTray : methods[241]? = some mX7_isTray := rfl
set_option maxRecDepth 20000 in
theorem kX7_tray : methods[242]? = some mX7_tray := rfl
set_option maxRecDepth 20000 in
theorem kX7_cut : methods[243]? = some mX7_cut := rfl
set_option maxRecDepth 20000 in
theorem kX7_write : methods[244]? = some mX7_write := rfl
set_option maxRecDepth 20000 in
theorem kX7_pour : methods[245]? = some mX7_pour := rfl
set_option maxRecDepth 20000 in
theorem kX7_image : methods[246]? = some mX7_image := rfl
set_option maxRecDepth 20000 in
theorem kX7_restore : methods[247]? = some mX7_restore := rfl
set_option maxRecDepth 20000 in
theorem kX7_count : methods[248]? = some mX7_count := rfl
set_option maxRecDepth 20000 in
theorem kJ6_bitCount_0f7a4 : methods[249]? = some mJ6_bitCount_0f7a4 := rfl
set_option maxRecDepth 20000 in
theorem kJ9_floorDiv_f86c9 : methods[250]? = some mJ9_floorDiv_f86c9 := rfl
set_option maxRecDepth 20000 in
theorem kJ9_floorMod_f86c9 : methods[251]? = some mJ9_floorMod_f86c9 := rfl
set_option maxRecDepth 20000 in
theorem kJ9_abs_0f7a4 : methods[252]? = some mJ9_abs_0f7a4 := rfl
set_option maxRecDepth 20000 in
theorem kJ9_max_7cf53 : methods[253]? = some mJ9_max_7cf53 := rfl
set_option maxRecDepth 20000 in
theorem kJ9_max_f86c9 : methods[254]? = some mJ9_max_f86c9 := rfl
set_option maxRecDepth 20000 in
theorem kJ9_min_7cf53 : methods[255]? = some mJ9_min_7cf53 := rfl
set_option maxRecDepth 20000 in
theorem kL_club : methods[256]? = some mL_club := rfl
set_option maxRecDepth 20000 in
theorem kL_member : methods[257]? = some mL_member := rfl
set_option maxRecDepth 20000 in
theorem kL_quota : methods[258]? = some mL_quota := rfl
set_option maxRecDepth 20000 in
theorem kL_week : methods[259]? = some mL_week := rfl
set_option maxRecDepth 20000 in
theorem kL_told : methods[260]? = some mL_told := rfl
set_option maxRecDepth 20000 in
theorem kL_back : methods[261]? = some mL_back := rfl
set_option maxRecDepth 20000 in
theorem kL_came : methods[262]? = some mL_came := rfl
set_option maxRecDepth 20000 in
theorem kL_met : methods[263]? = some mL_met := rfl
set_option maxRecDepth 20000 in
theorem kL_hats : methods[264]? = some mL_hats := rfl
set_option maxRecDepth 20000 in
theorem kL_thought : methods[265]? = some mL_thought := rfl
set_option maxRecDepth 20000 in
theorem kL_judge : methods[266]? = some mL_judge := rfl
set_option maxRecDepth 20000 in
theorem kL_gain : methods[267]? = some mL_gain := rfl
set_option maxRecDepth 20000 in
theorem kL_rests : methods[268]? = some mL_rests := rfl
set_option maxRecDepth 20000 in
theorem kL_strong : methods[269]? = some mL_strong := rfl
set_option maxRecDepth 20000 in
theorem kL_turnsBy : methods[270]? = some mL_turnsBy := rfl
set_option maxRecDepth 20000 in
theorem kL_two : methods[271]? = some mL_two := rfl
set_option maxRecDepth 20000 in
theorem kL_pay : methods[272]? = some mL_pay := rfl
set_option maxRecDepth 20000 in
theorem kL_pivots : methods[273]? = some mL_pivots := rfl
set_option maxRecDepth 20000 in
theorem kL_replies : methods[274]? = some mL_replies := rfl
set_option maxRecDepth 20000 in
theorem kL_bribe : methods[275]? = some mL_bribe := rfl
set_option maxRecDepth 20000 in
theorem kL_leastBribe : methods[276]? = some mL_leastBribe := rfl
set_option maxRecDepth 20000 in
theorem kL_contract : methods[277]? = some mL_contract := rfl
set_option maxRecDepth 20000 in
theorem kL_odds : methods[278]? = some mL_odds := rfl
set_option maxRecDepth 20000 in
theorem kL_bestOdds : methods[279]? = some mL_bestOdds := rfl
set_option maxRecDepth 20000 in
theorem kL_chances : methods[280]? = some mL_chances := rfl
set_option maxRecDepth 20000 in
theorem kL_hope : methods[281]? = some mL_hope := rfl
set_option maxRecDepth 20000 in
theorem kL_ahead : methods[282]? = some mL_ahead := rfl
set_option maxRecDepth 20000 in
theorem kL_ring : methods[283]? = some mL_ring := rfl
set_option maxRecDepth 20000 in
theorem kL_worth : methods[284]? = some mL_worth := rfl
set_option maxRecDepth 20000 in
theorem kL_bestQuota : methods[285]? = some mL_bestQuota := rfl
set_option maxRecDepth 20000 in
theorem kL_bestRule : methods[286]? = some mL_bestRule := rfl
set_option maxRecDepth 20000 in
theorem kL_streak : methods[287]? = some mL_streak := rfl
set_option maxRecDepth 20000 in
theorem kL_together : methods[288]? = some mL_together := rfl
set_option maxRecDepth 20000 in
theorem kL_doubts : methods[289]? = some mL_doubts := rfl
set_option maxRecDepth 20000 in
theorem kL_cook : methods[290]? = some mL_cook := rfl
set_option maxRecDepth 20000 in
theorem kL_guess : methods[291]? = some mL_guess := rfl
set_option maxRecDepth 20000 in
theorem kL_tray : methods[292]? = some mL_tray := rfl
set_option maxRecDepth 20000 in
theorem kL_write : methods[293]? = some mL_write := rfl
set_option maxRecDepth 20000 in
theorem kL_pour : methods[294]? = some mL_pour := rfl
set_option maxRecDepth 20000 in
theorem kL_image : methods[295]? = some mL_image := rfl
set_option maxRecDepth 20000 in
theorem kL_restore : methods[296]? = some mL_restore := rfl
theorem cst_eq : ((List.range 297).all (fun k => match methods[k]? with | some m => decide (mB m = cst k) | none => false)) = true := by decide +kernel
theorem methods_len : methods.length = 297 := by decide +kernel
theorem inf_eq : ((List.range 297).all (fun k => match methods[k]?, infTab[k]? with | some m, some q => decide (q.1 = mN m + (if mK m = 1 ∨ mK m = 6 then 0 else 1)) && (if mK m = 0 then decide (oR q.2 = (mY m).cls) && decide (q.2 < 8) else true) | _, _ => false)) = true := by decide +kernel
end
section
/-! ===== the tables' words, by their places ===== -/
def WG : List Cond := lw_tbl.filter goodWord
theorem wg {args : Array Value} {s : State} (hts : ∀ w ∈ WG, w.before args s = true) {i : Nat} {w : Cond} (h : lw_tbl[i]? = some w) (hg : goodWord w = true) : w.before args s = true := hts w (List.mem_filter.mpr ⟨List.mem_of_getElem? h, hg⟩)
theorem wg_in {i : Nat} {w : Cond} (h : lw_tbl[i]? = some w) (hg : goodWord w = true) : w ∈ WG := List.mem_filter.mpr ⟨List.mem_of_getElem? h, hg⟩
theorem wg_list {ws : List Cond} (ps : List Nat) (hp : ws = ps.filterMap (fun i => lw_tbl[i]?)) (hg : ws.all goodWord = true) : ∀ w ∈ ws, w ∈ WG := by
  intro w hw
  have h1 := List.all_eq_true.mp hg w hw
  rw [hp] at hw
  obtain ⟨i, -, hi⟩ := List.mem_filterMap.mp hw
  exact wg_in hi h1
set_option maxRecDepth 100000 in
theorem fld_ok : ∀ q ∈ fldTab, lw_tbl[q.2.2.2]? = some (.fieldLink (oR q.1) q.2.2.1 (fT q.2.1).1 (fT q.2.1).2.1 (fT q.2.1).2.2.1) := by decide +kernel
theorem fld_ok2 : ∀ q ∈ fldTab, q.2.1 / 32 < 8 ∧ q.2.1 % 32 < nfl.getD (q.2.1 / 32) 0 ∧ (fT q.2.1).1 = oR (q.2.1 / 32) := by decide +kernel
set_option maxRecDepth 100000 in
theorem con_ok : ∀ q ∈ conTab, lw_tbl[q.2.2.2]? = some (.constant (oR q.1) q.2.1 (kI q.2.2.1)) := by decide +kernel
set_option maxRecDepth 100000 in
theorem conL_ok : ∀ q ∈ conLTab, lw_tbl[q.2.2.2]? = some (.constantLong (oR q.1) q.2.1 (Int64.ofNat q.2.2.1)) := by decide +kernel
set_option maxRecDepth 100000 in
theorem stat_ok : ∀ q ∈ statTab, q.2.1 < 2 ∧ lw_tbl[q.2.2.2]? = some (.fieldLink (oR q.1) q.2.2.1 RX6 (["LEAST_N", "MOST_N"].getD q.2.1 "") "[I") := by decide +kernel
set_option maxRecDepth 100000 in
theorem new_ok : ∀ q ∈ newTab, q.2.1 < 8 ∧ lw_tbl[q.2.2.2]? = some (.classLink (oR q.1) q.2.2.1 (oR q.2.1)) := by decide +kernel
set_option maxRecDepth 100000 in
theorem ana_ok : ∀ q ∈ anaTab, lw_tbl[q.2.2.2]? = some (.classLink (oR q.1) q.2.2.1 (if q.2.1 = 5 then RX3 else RX0)) := by decide +kernel
set_option maxRecDepth 100000 in
theorem mna_ok : ∀ q ∈ mnaTab, lw_tbl[q.2.2]? = some (.classLink (oR q.1) q.2.1 "[[I") := by decide +kernel
set_option maxRecDepth 100000 in
theorem obj_ok : ∀ q ∈ objTab, lw_tbl[q.2.2]? = some (.methodLink (oR q.1) q.2.1 objectInit) := by decide +kernel
set_option maxRecDepth 100000 in
theorem cpy_ok : ∀ q ∈ cpyTab, lw_tbl[q.2.2]? = some (.methodLink (oR q.1) q.2.1 arraycopyName) := by decide +kernel
set_option maxRecDepth 100000 in
theorem exc_ok : ∀ q ∈ excTab, lw_tbl[q.2.2.2.2]? = some (.classLink (oR q.1) q.2.2.1 (exN q.2.1)) := by decide +kernel
set_option maxRecDepth 100000 in
theorem inC0 : ∀ w ∈ u_ws RX0 TX0 14, w ∈ WG := wg_list [155, 157, 159, 161, 163, 165, 167, 169, 171, 173, 175, 177, 179, 181] (by decide +kernel) (by decide +kernel)
set_option maxRecDepth 100000 in
theorem inC1 : ∀ w ∈ u_ws RX1 TX1 6, w ∈ WG := wg_list [236, 238, 240, 242, 244, 246] (by decide +kernel) (by decide +kernel)
set_option maxRecDepth 100000 in
theorem inC2 : ∀ w ∈ u_ws RX2 TX2 9, w ∈ WG := wg_list [203, 205, 207, 209, 211, 213, 215, 217, 219] (by decide +kernel) (by decide +kernel)
set_option maxRecDepth 100000 in
theorem inC3 : ∀ w ∈ u_ws RX3 TX3 4, w ∈ WG := wg_list [305, 307, 309, 311] (by decide +kernel) (by decide +kernel)
set_option maxRecDepth 100000 in
theorem inC4 : ∀ w ∈ u_ws RX4 TX4 2, w ∈ WG := wg_list [260, 262] (by decide +kernel) (by decide +kernel)
set_option maxRecDepth 100000 in
theorem inC5 : ∀ w ∈ u_ws RX5 TX5 6, w ∈ WG := wg_list [277, 279, 281, 283, 285, 287] (by decide +kernel) (by decide +kernel)
set_option maxRecDepth 100000 in
theorem inC6 : ∀ w ∈ u_ws RX6 TX6 12, w ∈ WG := wg_list [328, 330, 332, 334, 336, 338, 340, 342, 344, 346, 348, 350] (by decide +kernel) (by decide +kernel)
set_option maxRecDepth 100000 in
theorem inC7 : ∀ w ∈ u_ws RX7 TX7 28, w ∈ WG := wg_list [1254, 1256, 1258, 1260, 1262, 1264, 1266, 1268, 1270, 1272, 1274, 1276, 1278, 1280, 1282, 1284, 1286, 1288, 1290, 1292, 1294, 1296, 1298, 1300, 1302, 1304, 1306, 1308] (by decide +kernel) (by decide +kernel)
set_option maxRecDepth 100000 in
theorem insC0 : Cond.instantiable RX0 14 ∈ WG := wg_in (i := 107) (by decide +kernel) (by decide +kernel)
set_option maxRecDepth 100000 in
theorem iniC0 : Cond.initialized RX0 ∈ WG := wg_in (i := 77) (by decide +kernel) (by decide +kernel)
set_option maxRecDepth 100000 in
theorem insC1 : Cond.instantiable RX1 6 ∈ WG := wg_in (i := 224) (by decide +kernel) (by decide +kernel)
set_option maxRecDepth 100000 in
theorem iniC1 : Cond.initialized RX1 ∈ WG := wg_in (i := 79) (by decide +kernel) (by decide +kernel)
set_option maxRecDepth 100000 in
theorem insC2 : Cond.instantiable RX2 9 ∈ WG := wg_in (i := 186) (by decide +kernel) (by decide +kernel)
set_option maxRecDepth 100000 in
theorem iniC2 : Cond.initialized RX2 ∈ WG := wg_in (i := 78) (by decide +kernel) (by decide +kernel)
set_option maxRecDepth 100000 in
theorem insC3 : Cond.instantiable RX3 4 ∈ WG := wg_in (i := 293) (by decide +kernel) (by decide +kernel)
set_option maxRecDepth 100000 in
theorem iniC3 : Cond.initialized RX3 ∈ WG := wg_in (i := 82) (by decide +kernel) (by decide +kernel)
set_option maxRecDepth 100000 in
theorem insC4 : Cond.instantiable RX4 2 ∈ WG := wg_in (i := 250) (by decide +kernel) (by decide +kernel)
set_option maxRecDepth 100000 in
theorem iniC4 : Cond.initialized RX4 ∈ WG := wg_in (i := 80) (by decide +kernel) (by decide +kernel)
set_option maxRecDepth 100000 in
theorem insC5 : Cond.instantiable RX5 6 ∈ WG := wg_in (i := 266) (by decide +kernel) (by decide +kernel)
set_option maxRecDepth 100000 in
theorem iniC5 : Cond.initialized RX5 ∈ WG := wg_in (i := 81) (by decide +kernel) (by decide +kernel)
set_option maxRecDepth 100000 in
theorem insC6 : Cond.instantiable RX6 12 ∈ WG := wg_in (i := 99) (by decide +kernel) (by decide +kernel)
set_option maxRecDepth 100000 in
theorem iniC6 : Cond.initialized RX6 ∈ WG := wg_in (i := 76) (by decide +kernel) (by decide +kernel)
set_option maxRecDepth 100000 in
theorem insC7 : Cond.instantiable RX7 28 ∈ WG := wg_in (i := 1218) (by decide +kernel) (by decide +kernel)
set_option maxRecDepth 100000 in
theorem iniC7 : Cond.initialized RX7 ∈ WG := wg_in (i := 83) (by decide +kernel) (by decide +kernel)
set_option maxRecDepth 100000 in
theorem objI : Cond.instanceMethod objectInit ∈ WG := wg_in (i := 104) (by decide +kernel) (by decide +kernel)
set_option maxRecDepth 100000 in
theorem objC : Cond.code objectInit ⟨#[0xb1]⟩ 1 none ∈ WG := wg_in (i := 105) (by decide +kernel) (by decide +kernel)
set_option maxRecDepth 100000 in
theorem cpyN : Cond.native arraycopyName ∈ WG := wg_in (i := 1072) (by decide +kernel) (by decide +kernel)
set_option maxRecDepth 100000 in
theorem cpyS : Cond.static arraycopyName ∈ WG := wg_in (i := 1071) (by decide +kernel) (by decide +kernel)
set_option maxRecDepth 100000 in
theorem cpyI : Cond.initialized "java/lang/System" ∈ WG := wg_in (i := 96) (by decide +kernel) (by decide +kernel)
set_option maxRecDepth 100000 in
theorem arC_int : Cond.arrayClass .int ∈ WG := wg_in (i := 184) (by decide +kernel) (by decide +kernel)
set_option maxRecDepth 100000 in
theorem arC_long : Cond.arrayClass .long ∈ WG := wg_in (i := 315) (by decide +kernel) (by decide +kernel)
set_option maxRecDepth 100000 in
theorem arC_boolean : Cond.arrayClass .boolean ∈ WG := wg_in (i := 314) (by decide +kernel) (by decide +kernel)
set_option maxRecDepth 100000 in
theorem arC_byte : Cond.arrayClass .byte ∈ WG := wg_in (i := 222) (by decide +kernel) (by decide +kernel)
/-- a class of the eight, by its number -/
def clOK (ci : Nat) (C : String) (T : u_T) (N : Nat) (ty : Nat → FieldType) : Prop := vwCl[ci]? = some (C, T, N) ∧ C = oR ci ∧ N = nfl.getD ci 0 ∧ (∀ w ∈ u_ws C T N, w ∈ WG) ∧ (∀ j, j < N → T j = fT (32 * ci + j)) ∧ (∀ j, j < N → ty j = fty (32 * ci + j)) ∧ (∀ k, k < N → parseFieldDescriptor (T k).2.2.1 = some (ty k)) ∧ (∀ a, a < N → ∀ b, b < N → a ≠ b → (T a).2.1 ≠ (T b).2.1) ∧ Cond.instantiable C N ∈ WG ∧ Cond.initialized C ∈ WG
theorem clC0 : clOK 0 RX0 TX0 14 tyX0 := ⟨rfl, rfl, rfl, inC0, by decide +kernel, by decide +kernel, tyX0_ok, nmX0, insC0, iniC0⟩
theorem clC1 : clOK 1 RX1 TX1 6 tyX1 := ⟨rfl, rfl, rfl, inC1, by decide +kernel, by decide +kernel, tyX1_ok, nmX1, insC1, iniC1⟩
theorem clC2 : clOK 2 RX2 TX2 9 tyX2 := ⟨rfl, rfl, rfl, inC2, by decide +kernel, by decide +kernel, tyX2_ok, nmX2, insC2, iniC2⟩
theorem clC3 : clOK 3 RX3 TX3 4 tyX3 := ⟨rfl, rfl, rfl, inC3, by decide +kernel, by decide +kernel, tyX3_ok, nmX3, insC3, iniC3⟩
theorem clC4 : clOK 4 RX4 TX4 2 tyX4 := ⟨rfl, rfl, rfl, inC4, by decide +kernel, by decide +kernel, tyX4_ok, nmX4, insC4, iniC4⟩
theorem clC5 : clOK 5 RX5 TX5 6 tyX5 := ⟨rfl, rfl, rfl, inC5, by decide +kernel, by decide +kernel, tyX5_ok, nmX5, insC5, iniC5⟩
theorem clC6 : clOK 6 RX6 TX6 12 tyX6 := ⟨rfl, rfl, rfl, inC6, by decide +kernel, by decide +kernel, tyX6_ok, nmX6, insC6, iniC6⟩
theorem clC7 : clOK 7 RX7 TX7 28 tyX7 := ⟨rfl, rfl, rfl, inC7, by decide +kernel, by decide +kernel, tyX7_ok, nmX7, insC7, iniC7⟩
theorem clAll {ci : Nat} (h : ci < 8) : ∃ C T N ty, clOK ci C T N ty := by
  match ci, h with
  | 0, _ => exact ⟨_, _, _, _, clC0⟩
  | 1, _ => exact ⟨_, _, _, _, clC1⟩
  | 2, _ => exact ⟨_, _, _, _, clC2⟩
  | 3, _ => exact ⟨_, _, _, _, clC3⟩
  | 4, _ => exact ⟨_, _, _, _, clC4⟩
  | 5, _ => exact ⟨_, _, _, _, clC5⟩
  | 6, _ => exact ⟨_, _, _, _, clC6⟩
  | 7, _ => exact ⟨_, _, _, _, clC7⟩
  | n + 8, h => omega
end
section
/-! ===== the abstract heap and the machine's; the abstract locals and the frame's ===== -/
def tysK (cA : Nat → ClassId) : List (ClassId × FieldType) := (List.range 7).map (fun t => (cA t, aty t))
theorem tysK_at (cA : Nat → ClassId) {t : Nat} (h : t < 7) : (tysK cA)[t]? = some (cA t, aty t) := by
  unfold tysK
  rw [List.getElem?_map, List.getElem?_range h]
  rfl
def encC (cA : Nat → ClassId) : Option ac_C → va_E
  | some (.inl (t, x)) => .inl (cA t, x)
  | some (.inr o) => .inr o
  | none => .inr (0, [])
def cwK (cA : Nat → ClassId) (h : ac_H) (dom : List Nat) : va_W := dom.map (fun a => (a, encC cA (h a)))
def xRel (D : va_G) (cA : Nat → ClassId) (A : Nat → Prop) (h : ac_H) (H : Heap) : Prop := ∃ dom : List Nat, (∀ a, h a ≠ none ↔ a ∈ dom) ∧ va_P D vwCl (cwK cA h dom) H ∧ va_D A (cwK cA h dom)
theorem cwK_at {cA : Nat → ClassId} {h : ac_H} {dom : List Nat} {i a : Nat} (hi : dom[i]? = some a) : (cwK cA h dom)[i]? = some (a, encC cA (h a)) := by
  unfold cwK
  rw [List.getElem?_map, hi]
  rfl
theorem cwK_of {cA : Nat → ClassId} {h : ac_H} {dom : List Nat} {i : Nat} {x : Nat × va_E} (hi : (cwK cA h dom)[i]? = some x) : dom[i]? = some x.1 ∧ x.2 = encC cA (h x.1) := by
  unfold cwK at hi
  rw [List.getElem?_map] at hi
  cases hd : dom[i]? with
  | none => rw [hd] at hi; cases hi
  | some a =>
    rw [hd] at hi
    cases hi
    exact ⟨rfl, rfl⟩
theorem cwK_dist {cA : Nat → ClassId} {A : Nat → Prop} {h : ac_H} {dom : List Nat} (hD : va_D A (cwK cA h dom)) {i j a : Nat} (hi : dom[i]? = some a) (hj : dom[j]? = some a) : i = j :=
  hD.1 i j _ _ (cwK_at hi) (cwK_at hj) rfl
theorem hup_self (h : ac_H) (a : Nat) (c : ac_C) : hup h a c a = some c := if_pos rfl
theorem hup_ne {h : ac_H} {a x : Nat} {c : ac_C} (n : x ≠ a) : hup h a c x = h x := if_neg n
theorem cwK_set {cA : Nat → ClassId} {A : Nat → Prop} {h : ac_H} {dom : List Nat} (hD : va_D A (cwK cA h dom)) {i a : Nat} (hi : dom[i]? = some a) (c : ac_C) : (cwK cA h dom).set i (a, encC cA (some c)) = cwK cA (hup h a c) dom := by
  have hl : i < dom.length := (List.getElem?_eq_some_iff.mp hi).1
  apply List.ext_getElem?
  intro j
  by_cases hj : j = i
  · subst hj
    rw [List.getElem?_set_self (by unfold cwK; rw [List.length_map]; exact hl), cwK_at hi, hup_self]
  · rw [List.getElem?_set_ne (Ne.symm hj)]
    unfold cwK
    rw [List.getElem?_map, List.getElem?_map]
    cases hd : dom[j]? with
    | none => rfl
    | some b =>
      have hb : b ≠ a := fun e => hj (cwK_dist hD (e ▸ hd) hi)
      show some (b, encC cA (h b)) = some (b, encC cA (hup h a c b))
      rw [hup_ne hb]
theorem xRel.at {D : va_G} {cA : Nat → ClassId} {A : Nat → Prop} {h : ac_H} {H : Heap} {a : Nat} {c : ac_C} {dom : List Nat} (hd : ∀ a, h a ≠ none ↔ a ∈ dom) (ha : h a = some c) : ∃ i : Nat, dom[i]? = some a := by
  have h1 : a ∈ dom := (hd a).mp (by rw [ha]; exact fun e => by cases e)
  exact List.getElem?_of_mem h1
theorem xRel.put {D : va_G} {cA : Nat → ClassId} {A : Nat → Prop} {h : ac_H} {H1 : Heap} {a : Nat} {c c0 : ac_C} {dom : List Nat} (hd : ∀ a, h a ≠ none ↔ a ∈ dom) (ha : h a = some c0) (hP : va_P D vwCl (cwK cA (hup h a c) dom) H1) (hD : va_D A (cwK cA (hup h a c) dom)) : xRel D cA A (hup h a c) H1 := by
  refine ⟨dom, fun x => ?_, hP, hD⟩
  by_cases e : x = a
  · subst e
    rw [hup_self]
    exact ⟨fun _ => (hd x).mp (by rw [ha]; exact fun e => by cases e), fun _ e => by cases e⟩
  · rw [hup_ne e]
    exact hd x
theorem xRel.push {D : va_G} {cA : Nat → ClassId} {A : Nat → Prop} {h : ac_H} {H1 : Heap} {q : Nat} {c : ac_C} {e : va_E} {dom : List Nat} (hd : ∀ a, h a ≠ none ↔ a ∈ dom) (he : e = encC cA (some c)) (hP : va_P D vwCl (cwK cA h dom ++ [(q, e)]) H1) (hD : va_D A (cwK cA h dom ++ [(q, e)])) : h q = none ∧ xRel D cA A (hup h q c) H1 := by
  subst he
  have hlen : (cwK cA h dom).length = dom.length := by unfold cwK; rw [List.length_map]
  have hq : q ∉ dom := by
    intro hm
    obtain ⟨i, hi⟩ := List.getElem?_of_mem hm
    have hil : i < dom.length := (List.getElem?_eq_some_iff.mp hi).1
    have h1 : (cwK cA h dom ++ [(q, encC cA (some c))])[i]? = some (q, encC cA (h q)) := by
      rw [List.getElem?_append_left (by omega)]
      exact cwK_at hi
    have h2 : (cwK cA h dom ++ [(q, encC cA (some c))])[dom.length]? = some (q, encC cA (some c)) := by
      rw [← hlen, List.getElem?_append_right (Nat.le_refl _), Nat.sub_self]
      rfl
    have := hD.1 i dom.length _ _ h1 h2 rfl
    omega
  have hn : h q = none := by
    cases e : h q with
    | none => rfl
    | some c0 => exact absurd ((hd q).mp (by rw [e]; exact fun e => by cases e)) hq
  have hw : cwK cA h dom ++ [(q, encC cA (some c))] = cwK cA (hup h q c) (dom ++ [q]) := by
    unfold cwK
    rw [List.map_append]
    congr 1
    · apply List.map_congr_left
      intro a ha
      rw [hup_ne (fun (e : a = q) => hq (e ▸ ha))]
    · simp [hup_self]
  refine ⟨hn, dom ++ [q], fun x => ?_, hw ▸ hP, hw ▸ hD⟩
  by_cases e : x = q
  · subst e
    rw [hup_self]
    simp
  · rw [hup_ne e, hd x]
    simp [e]
/-- locals -/
def lvf : Nat → ac_L → List (Nat × Value)
  | _, [] => []
  | i, some v :: l => (i, v) :: lvf (i + 1) l
  | i, none :: l => lvf (i + 1) l
theorem lvf_mem : ∀ (l : ac_L) (i j : Nat) (v : Value), (j, v) ∈ lvf i l ↔ ∃ k, j = i + k ∧ gI l k = some v
  | [], i, j, v => by simp [lvf, gI]
  | some w :: l, i, j, v => by
    rw [lvf, List.mem_cons, lvf_mem l (i + 1) j v]
    constructor
    · rintro (h | ⟨k, h1, h2⟩)
      · cases h
        exact ⟨0, rfl, rfl⟩
      · exact ⟨k + 1, by omega, h2⟩
    · rintro ⟨k, h1, h2⟩
      cases k with
      | zero =>
        left
        have : w = v := by simpa [gI] using h2
        rw [this, h1]
        rfl
      | succ k => exact Or.inr ⟨k, by omega, h2⟩
  | none :: l, i, j, v => by
    rw [lvf, lvf_mem l (i + 1) j v]
    constructor
    · rintro ⟨k, h1, h2⟩
      exact ⟨k + 1, by omega, h2⟩
    · rintro ⟨k, h1, h2⟩
      cases k with
      | zero => simp [gI] at h2
      | succ k => exact ⟨k, by omega, h2⟩
theorem lvf_mem0 {l : ac_L} {j : Nat} {v : Value} : (j, v) ∈ lvf 0 l ↔ gI l j = some v := by
  rw [lvf_mem]
  constructor
  · rintro ⟨k, h1, h2⟩
    rw [h1, Nat.zero_add]; exact h2
  · intro h
    exact ⟨j, by omega, h⟩
theorem gI_sI : ∀ (l : ac_L) (i j : Nat) (x : Option Value) (v : Value), gI (sI l i x) j = some v → (j = i ∧ x = some v) ∨ (j ≠ i ∧ gI l j = some v)
  | [], i, j, x, v, h => by simp [sI, gI] at h
  | w :: l, 0, 0, x, v, h => Or.inl ⟨rfl, h⟩
  | w :: l, 0, j + 1, x, v, h => Or.inr ⟨by omega, h⟩
  | w :: l, i + 1, 0, x, v, h => Or.inr ⟨by omega, h⟩
  | w :: l, i + 1, j + 1, x, v, h => by
    rcases gI_sI l i j x v h with ⟨h1, h2⟩ | ⟨h1, h2⟩
    · exact Or.inl ⟨by omega, h2⟩
    · exact Or.inr ⟨by omega, h2⟩
theorem low1_ne {ls : ac_L} {j i : Nat} {w : Value} (h : low1 ls i = true) (hj : j + 1 = i) (hg : gI ls j = some w) : ¬ w.category = 2 := by
  subst hj
  have h1 : (!(cat2 (gI ls j))) = true := h
  rw [hg] at h1
  cases w <;> simp [cat2, Value.category] at h1 ⊢
theorem lv_get {la : Array Slot} {nL : Nat} {ls : ac_L} {i : Nat} {v : Value} (h : lv_has la nL (lvf 0 ls)) (hg : gI ls i = some v) : la[i]? = some (.val v) := h.2.2 (i, v) (lvf_mem0.mpr hg)
theorem lv_put1 {la : Array Slot} {nL : Nat} {ls : ac_L} {i : Nat} {v : Value} (hlo : low1 ls i = true) (h : lv_has la nL ((i, v) :: (lvf 0 ls).filter (fun q => !(q.1 == i) && !(q.1 + 1 == i && q.2.category == 2)))) : lv_has la nL (lvf 0 (sI ls i (some v))) := by
  refine ⟨h.1, h.2.1, fun q hq => ?_⟩
  obtain ⟨j, w⟩ := q
  rcases gI_sI _ _ _ _ _ (lvf_mem0.mp hq) with ⟨h1, h2⟩ | ⟨h1, h2⟩
  · have e : v = w := Option.some.inj h2
    rw [h1, ← e]
    exact h.2.2 (i, v) List.mem_cons_self
  · refine h.2.2 (j, w) (List.mem_cons_of_mem _ (List.mem_filter.mpr ⟨lvf_mem0.mpr h2, ?_⟩))
    by_cases e : j + 1 = i
    · have := low1_ne hlo e h2
      simp [h1, this]
    · simp [h1, e]
theorem lv_put2 {la : Array Slot} {nL : Nat} {ls : ac_L} {i : Nat} {v : Value} (hlo : low1 ls i = true) (h : lv_has la nL ((i, v) :: (lvf 0 ls).filter (fun q => !(q.1 == i) && (!(q.1 == i + 1) && !(q.1 + 1 == i && q.2.category == 2))))) : lv_has la nL (lvf 0 (sI (sI ls i (some v)) (i + 1) none)) := by
  refine ⟨h.1, h.2.1, fun q hq => ?_⟩
  obtain ⟨j, w⟩ := q
  rcases gI_sI _ _ _ _ _ (lvf_mem0.mp hq) with ⟨h1, h2⟩ | ⟨h0, h1⟩
  · cases h2
  · rcases gI_sI _ _ _ _ _ h1 with ⟨h1, h2⟩ | ⟨h1, h2⟩
    · have e : v = w := Option.some.inj h2
      rw [h1, ← e]
      exact h.2.2 (i, v) List.mem_cons_self
    · refine h.2.2 (j, w) (List.mem_cons_of_mem _ (List.mem_filter.mpr ⟨lvf_mem0.mpr h2, ?_⟩))
      by_cases e : j + 1 = i
      · have := low1_ne hlo e h2
        simp [h1, h0, this]
      · simp [h1, h0, e]
/-- at a method's entry -/
def entA : List Value → ac_L
  | [] => []
  | v :: vs => if cat2 (some v) = true then some v :: none :: entA vs else some v :: entA vs
def entL (as : List Value) (n : Nat) : ac_L := entA as ++ List.replicate (n - (entA as).length) none
theorem cat2_iff (v : Value) : cat2 (some v) = true ↔ v.category = 2 := by cases v <;> simp [cat2, Value.category]
theorem entA_mem : ∀ (as : List Value) (i j : Nat) (v : Value), gI (entA as) j = some v → (i + j, v) ∈ lv_args i as
  | [], i, j, v, h => by simp [entA, gI] at h
  | w :: as, i, j, v, h => by
    rw [entA] at h
    rw [lv_args]
    by_cases hc : cat2 (some w) = true
    · rw [if_pos hc] at h
      rw [if_pos ((cat2_iff w).mp hc)]
      match j, h with
      | 0, h =>
        have : w = v := by simpa [gI] using h
        rw [this]
        exact List.mem_cons_self
      | 1, h => simp [gI] at h
      | j + 2, h =>
        have h1 := entA_mem as (i + 2) j v h
        rw [show i + (j + 2) = i + 2 + j by omega]
        exact List.mem_cons_of_mem _ h1
    · rw [if_neg hc] at h
      rw [if_neg (fun e => hc ((cat2_iff w).mpr e))]
      match j, h with
      | 0, h =>
        have : w = v := by simpa [gI] using h
        rw [this]
        exact List.mem_cons_self
      | j + 1, h =>
        have h1 := entA_mem as (i + 1) j v h
        rw [show i + (j + 1) = i + 1 + j by omega]
        exact List.mem_cons_of_mem _ h1
theorem gI_rep : ∀ (n j : Nat) (v : Value), ¬ gI (List.replicate n none) j = some v
  | 0, j, v, h => by simp [gI] at h
  | n + 1, 0, v, h => by simp [List.replicate, gI] at h
  | n + 1, j + 1, v, h => gI_rep n j v h
theorem gI_pad : ∀ (l : ac_L) (n j : Nat) (v : Value), gI (l ++ List.replicate n none) j = some v → gI l j = some v
  | [], n, j, v, h => absurd h (gI_rep n j v)
  | w :: l, n, 0, v, h => h
  | w :: l, n, j + 1, v, h => gI_pad l n j v h
theorem lv_ent {la : Array Slot} {n : Nat} {as : List Value} (h : lv_has la n (lv_args 0 as)) : lv_has la n (lvf 0 (entL as n)) := by
  refine ⟨h.1, h.2.1, fun q hq => ?_⟩
  obtain ⟨j, v⟩ := q
  have h1 := entA_mem as 0 j v (gI_pad _ _ _ _ (lvf_mem0.mp hq))
  rw [Nat.zero_add] at h1
  exact h.2.2 _ h1
end
section
/-! ===== the abstract machine's steps are the machine's ===== -/
def xR (p : Program) (l : Launch) (e : Env) (R : Room) (s : State) (m : MethodId) (args : Array Value) (below : List Frame) (meth : Method) (c : Code) (Z : State → Prop) (D : va_G) (cA : Nat → ClassId) (A : Nat → Prop) (nL : Nat) (mb : Nat × Nat) (pc : Nat) : ac_X := fun ls st h bg => bgle bg mb → ∀ (H : Heap) (locs : List Loc) (la : Array Slot), xRel D cA A h H → va_S A s.heap H locs → lv_has la nL (lvf 0 ls) → W p l e R s m args below meth c H locs bg.1 bg.2 Z (F0 m pc la st)
theorem row_step {own : Nat} {isI : Bool} {tr : Nat} {nL : Nat} {sp : List Nat} {cc : ByteArray} {pc n : Nat} {ai : Instr} {is : ac_I} (h : ((match decode cc pc with | .ok (ci, n2) => n2 == n && rel own isI tr nL sp pc n ai ci | _ => false) && rowOK own isI tr nL sp cc (pc + n) is) = true) : ∃ ci, decode cc pc = .ok (ci, n) ∧ rel own isI tr nL sp pc n ai ci = true ∧ rowOK own isI tr nL sp cc (pc + n) is = true := by
  rw [Bool.and_eq_true] at h
  obtain ⟨h1, h2⟩ := h
  cases hd : decode cc pc with
  | error x => rw [hd] at h1; cases h1
  | ok x =>
    obtain ⟨ci, n2⟩ := x
    rw [hd] at h1
    simp only [Bool.and_eq_true, beq_iff_eq] at h1
    obtain ⟨e, h1⟩ := h1
    subst e
    exact ⟨ci, rfl, h1, h2⟩
theorem rel_simple {ai ci : Instr} {n : Nat} (h : (simpleI ai && decide (ci = ai) && n == 1) = true) : ci = ai ∧ n = 1 := by
  simp only [Bool.and_eq_true, decide_eq_true_eq, beq_iff_eq] at h
  exact ⟨h.1.2, h.2⟩
theorem jOK_at {sp : List Nat} {pc : Nat} {b off : Int} (h : jOK sp pc b off = true) : ∃ t : Nat, sp[b.toNat]? = some t ∧ (pc : Int) + off = (t : Int) := by
  unfold jOK at h
  cases hs : sp[b.toNat]? with
  | none => rw [hs] at h; cases h
  | some t =>
    rw [hs] at h
    exact ⟨t, rfl, of_decide_eq_true h⟩
section SND
variable {p : Program} {l : Launch} {e : Env} {R : Room} {s : State} {m : MethodId} {args : Array Value} {below : List Frame} {meth : Method} {c : Code} {Z : State → Prop} {D : va_G} {cA : Nat → ClassId} {A : Nat → Prop}
variable {cc : ByteArray} {own : Nat} {isI : Bool} {tr : Nat} {nL : Nat} {sp : List Nat}
variable {call : Nat → List Value → ac_H → ac_P → Prop} {cs : Nat → Nat × Nat} {ga : Nat → Nat} {L : Nat} {xs : Nat → Int32} {sl : Nat → List Int32} {mb : Nat × Nat} {hands : List (Nat × Int)} {rt : Option FieldType} {Q : ac_P} {J : Nat → ac_X}
variable {is : ac_I} {ls : ac_L} {st : List Value} {h : ac_H} {bg : Nat × Nat} {pc n : Nat}

theorem s_iadd (hx : p.tables.exec = Jvm.exec) (hb : c.code = cc)  (ih : ∀ (pc : Nat) (ls : ac_L) (st : List Value) (h : ac_H) (bg : Nat × Nat), rowOK own isI tr nL sp cc pc is = true → xB call cs ga L xs sl mb hands rt Q J is ls st h bg → xR p l e R s m args below meth c Z D cA A nL mb pc ls st h bg) (hrow : rowOK own isI tr nL sp cc pc ((.iadd, n) :: is) = true) (hxb : xB call cs ga L xs sl mb hands rt Q J ((.iadd, n) :: is) ls st h bg) : xR p l e R s m args below meth c Z D cA A nL mb pc ls st h bg := by
  obtain ⟨ci, hd, hr, hw⟩ := row_step (ai := .iadd) hrow
  obtain ⟨rfl, rfl⟩ := rel_simple hr
  simp only [xB] at hxb
  split at hxb
  · intro hbg H locs la hR hS hl
    exact lv_iadd hx hb hd (ih _ _ _ _ _ hw hxb hbg H locs la hR hS hl)
  · exact hxb.elim
theorem s_isub (hx : p.tables.exec = Jvm.exec) (hb : c.code = cc)  (ih : ∀ (pc : Nat) (ls : ac_L) (st : List Value) (h : ac_H) (bg : Nat × Nat), rowOK own isI tr nL sp cc pc is = true → xB call cs ga L xs sl mb hands rt Q J is ls st h bg → xR p l e R s m args below meth c Z D cA A nL mb pc ls st h bg) (hrow : rowOK own isI tr nL sp cc pc ((.isub, n) :: is) = true) (hxb : xB call cs ga L xs sl mb hands rt Q J ((.isub, n) :: is) ls st h bg) : xR p l e R s m args below meth c Z D cA A nL mb pc ls st h bg := by
  obtain ⟨ci, hd, hr, hw⟩ := row_step (ai := .isub) hrow
  obtain ⟨rfl, rfl⟩ := rel_simple hr
  simp only [xB] at hxb
  split at hxb
  · intro hbg H locs la hR hS hl
    exact lv_isub hx hb hd (ih _ _ _ _ _ hw hxb hbg H locs la hR hS hl)
  · exact hxb.elim
theorem s_imul (hx : p.tables.exec = Jvm.exec) (hb : c.code = cc)  (ih : ∀ (pc : Nat) (ls : ac_L) (st : List Value) (h : ac_H) (bg : Nat × Nat), rowOK own isI tr nL sp cc pc is = true → xB call cs ga L xs sl mb hands rt Q J is ls st h bg → xR p l e R s m args below meth c Z D cA A nL mb pc ls st h bg) (hrow : rowOK own isI tr nL sp cc pc ((.imul, n) :: is) = true) (hxb : xB call cs ga L xs sl mb hands rt Q J ((.imul, n) :: is) ls st h bg) : xR p l e R s m args below meth c Z D cA A nL mb pc ls st h bg := by
  obtain ⟨ci, hd, hr, hw⟩ := row_step (ai := .imul) hrow
  obtain ⟨rfl, rfl⟩ := rel_simple hr
  simp only [xB] at hxb
  split at hxb
  · intro hbg H locs la hR hS hl
    exact lv_imul hx hb hd (ih _ _ _ _ _ hw hxb hbg H locs la hR hS hl)
  · exact hxb.elim
theorem s_iand (hx : p.tables.exec = Jvm.exec) (hb : c.code = cc)  (ih : ∀ (pc : Nat) (ls : ac_L) (st : List Value) (h : ac_H) (bg : Nat × Nat), rowOK own isI tr nL sp cc pc is = true → xB call cs ga L xs sl mb hands rt Q J is ls st h bg → xR p l e R s m args below meth c Z D cA A nL mb pc ls st h bg) (hrow : rowOK own isI tr nL sp cc pc ((.iand, n) :: is) = true) (hxb : xB call cs ga L xs sl mb hands rt Q J ((.iand, n) :: is) ls st h bg) : xR p l e R s m args below meth c Z D cA A nL mb pc ls st h bg := by
  obtain ⟨ci, hd, hr, hw⟩ := row_step (ai := .iand) hrow
  obtain ⟨rfl, rfl⟩ := rel_simple hr
  simp only [xB] at hxb
  split at hxb
  · intro hbg H locs la hR hS hl
    exact lv_iand hx hb hd (ih _ _ _ _ _ hw hxb hbg H locs la hR hS hl)
  · exact hxb.elim
theorem s_ior (hx : p.tables.exec = Jvm.exec) (hb : c.code = cc)  (ih : ∀ (pc : Nat) (ls : ac_L) (st : List Value) (h : ac_H) (bg : Nat × Nat), rowOK own isI tr nL sp cc pc is = true → xB call cs ga L xs sl mb hands rt Q J is ls st h bg → xR p l e R s m args below meth c Z D cA A nL mb pc ls st h bg) (hrow : rowOK own isI tr nL sp cc pc ((.ior, n) :: is) = true) (hxb : xB call cs ga L xs sl mb hands rt Q J ((.ior, n) :: is) ls st h bg) : xR p l e R s m args below meth c Z D cA A nL mb pc ls st h bg := by
  obtain ⟨ci, hd, hr, hw⟩ := row_step (ai := .ior) hrow
  obtain ⟨rfl, rfl⟩ := rel_simple hr
  simp only [xB] at hxb
  split at hxb
  · intro hbg H locs la hR hS hl
    exact lv_ior hx hb hd (ih _ _ _ _ _ hw hxb hbg H locs la hR hS hl)
  · exact hxb.elim
theorem s_ixor (hx : p.tables.exec = Jvm.exec) (hb : c.code = cc)  (ih : ∀ (pc : Nat) (ls : ac_L) (st : List Value) (h : ac_H) (bg : Nat × Nat), rowOK own isI tr nL sp cc pc is = true → xB call cs ga L xs sl mb hands rt Q J is ls st h bg → xR p l e R s m args below meth c Z D cA A nL mb pc ls st h bg) (hrow : rowOK own isI tr nL sp cc pc ((.ixor, n) :: is) = true) (hxb : xB call cs ga L xs sl mb hands rt Q J ((.ixor, n) :: is) ls st h bg) : xR p l e R s m args below meth c Z D cA A nL mb pc ls st h bg := by
  obtain ⟨ci, hd, hr, hw⟩ := row_step (ai := .ixor) hrow
  obtain ⟨rfl, rfl⟩ := rel_simple hr
  simp only [xB] at hxb
  split at hxb
  · intro hbg H locs la hR hS hl
    exact lv_ixor hx hb hd (ih _ _ _ _ _ hw hxb hbg H locs la hR hS hl)
  · exact hxb.elim
theorem s_ineg (hx : p.tables.exec = Jvm.exec) (hb : c.code = cc)  (ih : ∀ (pc : Nat) (ls : ac_L) (st : List Value) (h : ac_H) (bg : Nat × Nat), rowOK own isI tr nL sp cc pc is = true → xB call cs ga L xs sl mb hands rt Q J is ls st h bg → xR p l e R s m args below meth c Z D cA A nL mb pc ls st h bg) (hrow : rowOK own isI tr nL sp cc pc ((.ineg, n) :: is) = true) (hxb : xB call cs ga L xs sl mb hands rt Q J ((.ineg, n) :: is) ls st h bg) : xR p l e R s m args below meth c Z D cA A nL mb pc ls st h bg := by
  obtain ⟨ci, hd, hr, hw⟩ := row_step (ai := .ineg) hrow
  obtain ⟨rfl, rfl⟩ := rel_simple hr
  simp only [xB] at hxb
  split at hxb
  · intro hbg H locs la hR hS hl
    exact lv_ineg hx hb hd (ih _ _ _ _ _ hw hxb hbg H locs la hR hS hl)
  · exact hxb.elim
theorem s_ladd (hx : p.tables.exec = Jvm.exec) (hb : c.code = cc)  (ih : ∀ (pc : Nat) (ls : ac_L) (st : List Value) (h : ac_H) (bg : Nat × Nat), rowOK own isI tr nL sp cc pc is = true → xB call cs ga L xs sl mb hands rt Q J is ls st h bg → xR p l e R s m args below meth c Z D cA A nL mb pc ls st h bg) (hrow : rowOK own isI tr nL sp cc pc ((.ladd, n) :: is) = true) (hxb : xB call cs ga L xs sl mb hands rt Q J ((.ladd, n) :: is) ls st h bg) : xR p l e R s m args below meth c Z D cA A nL mb pc ls st h bg := by
  obtain ⟨ci, hd, hr, hw⟩ := row_step (ai := .ladd) hrow
  obtain ⟨rfl, rfl⟩ := rel_simple hr
  simp only [xB] at hxb
  split at hxb
  · intro hbg H locs la hR hS hl
    exact lv_ladd hx hb hd (ih _ _ _ _ _ hw hxb hbg H locs la hR hS hl)
  · exact hxb.elim
theorem s_lsub (hx : p.tables.exec = Jvm.exec) (hb : c.code = cc)  (ih : ∀ (pc : Nat) (ls : ac_L) (st : List Value) (h : ac_H) (bg : Nat × Nat), rowOK own isI tr nL sp cc pc is = true → xB call cs ga L xs sl mb hands rt Q J is ls st h bg → xR p l e R s m args below meth c Z D cA A nL mb pc ls st h bg) (hrow : rowOK own isI tr nL sp cc pc ((.lsub, n) :: is) = true) (hxb : xB call cs ga L xs sl mb hands rt Q J ((.lsub, n) :: is) ls st h bg) : xR p l e R s m args below meth c Z D cA A nL mb pc ls st h bg := by
  obtain ⟨ci, hd, hr, hw⟩ := row_step (ai := .lsub) hrow
  obtain ⟨rfl, rfl⟩ := rel_simple hr
  simp only [xB] at hxb
  split at hxb
  · intro hbg H locs la hR hS hl
    exact lv_lsub hx hb hd (ih _ _ _ _ _ hw hxb hbg H locs la hR hS hl)
  · exact hxb.elim
theorem s_lmul (hx : p.tables.exec = Jvm.exec) (hb : c.code = cc)  (ih : ∀ (pc : Nat) (ls : ac_L) (st : List Value) (h : ac_H) (bg : Nat × Nat), rowOK own isI tr nL sp cc pc is = true → xB call cs ga L xs sl mb hands rt Q J is ls st h bg → xR p l e R s m args below meth c Z D cA A nL mb pc ls st h bg) (hrow : rowOK own isI tr nL sp cc pc ((.lmul, n) :: is) = true) (hxb : xB call cs ga L xs sl mb hands rt Q J ((.lmul, n) :: is) ls st h bg) : xR p l e R s m args below meth c Z D cA A nL mb pc ls st h bg := by
  obtain ⟨ci, hd, hr, hw⟩ := row_step (ai := .lmul) hrow
  obtain ⟨rfl, rfl⟩ := rel_simple hr
  simp only [xB] at hxb
  split at hxb
  · intro hbg H locs la hR hS hl
    exact lv_lmul hx hb hd (ih _ _ _ _ _ hw hxb hbg H locs la hR hS hl)
  · exact hxb.elim
theorem s_land (hx : p.tables.exec = Jvm.exec) (hb : c.code = cc)  (ih : ∀ (pc : Nat) (ls : ac_L) (st : List Value) (h : ac_H) (bg : Nat × Nat), rowOK own isI tr nL sp cc pc is = true → xB call cs ga L xs sl mb hands rt Q J is ls st h bg → xR p l e R s m args below meth c Z D cA A nL mb pc ls st h bg) (hrow : rowOK own isI tr nL sp cc pc ((.land, n) :: is) = true) (hxb : xB call cs ga L xs sl mb hands rt Q J ((.land, n) :: is) ls st h bg) : xR p l e R s m args below meth c Z D cA A nL mb pc ls st h bg := by
  obtain ⟨ci, hd, hr, hw⟩ := row_step (ai := .land) hrow
  obtain ⟨rfl, rfl⟩ := rel_simple hr
  simp only [xB] at hxb
  split at hxb
  · intro hbg H locs la hR hS hl
    exact lv_land hx hb hd (ih _ _ _ _ _ hw hxb hbg H locs la hR hS hl)
  · exact hxb.elim
theorem s_lor (hx : p.tables.exec = Jvm.exec) (hb : c.code = cc)  (ih : ∀ (pc : Nat) (ls : ac_L) (st : List Value) (h : ac_H) (bg : Nat × Nat), rowOK own isI tr nL sp cc pc is = true → xB call cs ga L xs sl mb hands rt Q J is ls st h bg → xR p l e R s m args below meth c Z D cA A nL mb pc ls st h bg) (hrow : rowOK own isI tr nL sp cc pc ((.lor, n) :: is) = true) (hxb : xB call cs ga L xs sl mb hands rt Q J ((.lor, n) :: is) ls st h bg) : xR p l e R s m args below meth c Z D cA A nL mb pc ls st h bg := by
  obtain ⟨ci, hd, hr, hw⟩ := row_step (ai := .lor) hrow
  obtain ⟨rfl, rfl⟩ := rel_simple hr
  simp only [xB] at hxb
  split at hxb
  · intro hbg H locs la hR hS hl
    exact lv_lor hx hb hd (ih _ _ _ _ _ hw hxb hbg H locs la hR hS hl)
  · exact hxb.elim
theorem s_lxor (hx : p.tables.exec = Jvm.exec) (hb : c.code = cc)  (ih : ∀ (pc : Nat) (ls : ac_L) (st : List Value) (h : ac_H) (bg : Nat × Nat), rowOK own isI tr nL sp cc pc is = true → xB call cs ga L xs sl mb hands rt Q J is ls st h bg → xR p l e R s m args below meth c Z D cA A nL mb pc ls st h bg) (hrow : rowOK own isI tr nL sp cc pc ((.lxor, n) :: is) = true) (hxb : xB call cs ga L xs sl mb hands rt Q J ((.lxor, n) :: is) ls st h bg) : xR p l e R s m args below meth c Z D cA A nL mb pc ls st h bg := by
  obtain ⟨ci, hd, hr, hw⟩ := row_step (ai := .lxor) hrow
  obtain ⟨rfl, rfl⟩ := rel_simple hr
  simp only [xB] at hxb
  split at hxb
  · intro hbg H locs la hR hS hl
    exact lv_lxor hx hb hd (ih _ _ _ _ _ hw hxb hbg H locs la hR hS hl)
  · exact hxb.elim
theorem s_ishl (hx : p.tables.exec = Jvm.exec) (hb : c.code = cc)  (ih : ∀ (pc : Nat) (ls : ac_L) (st : List Value) (h : ac_H) (bg : Nat × Nat), rowOK own isI tr nL sp cc pc is = true → xB call cs ga L xs sl mb hands rt Q J is ls st h bg → xR p l e R s m args below meth c Z D cA A nL mb pc ls st h bg) (hrow : rowOK own isI tr nL sp cc pc ((.ishl, n) :: is) = true) (hxb : xB call cs ga L xs sl mb hands rt Q J ((.ishl, n) :: is) ls st h bg) : xR p l e R s m args below meth c Z D cA A nL mb pc ls st h bg := by
  obtain ⟨ci, hd, hr, hw⟩ := row_step (ai := .ishl) hrow
  obtain ⟨rfl, rfl⟩ := rel_simple hr
  simp only [xB] at hxb
  split at hxb
  · intro hbg H locs la hR hS hl
    exact lv_ishl hx hb hd (ih _ _ _ _ _ hw hxb hbg H locs la hR hS hl)
  · exact hxb.elim
theorem s_ishr (hx : p.tables.exec = Jvm.exec) (hb : c.code = cc)  (ih : ∀ (pc : Nat) (ls : ac_L) (st : List Value) (h : ac_H) (bg : Nat × Nat), rowOK own isI tr nL sp cc pc is = true → xB call cs ga L xs sl mb hands rt Q J is ls st h bg → xR p l e R s m args below meth c Z D cA A nL mb pc ls st h bg) (hrow : rowOK own isI tr nL sp cc pc ((.ishr, n) :: is) = true) (hxb : xB call cs ga L xs sl mb hands rt Q J ((.ishr, n) :: is) ls st h bg) : xR p l e R s m args below meth c Z D cA A nL mb pc ls st h bg := by
  obtain ⟨ci, hd, hr, hw⟩ := row_step (ai := .ishr) hrow
  obtain ⟨rfl, rfl⟩ := rel_simple hr
  simp only [xB] at hxb
  split at hxb
  · intro hbg H locs la hR hS hl
    exact lv_ishr hx hb hd (ih _ _ _ _ _ hw hxb hbg H locs la hR hS hl)
  · exact hxb.elim
theorem s_i2l (hx : p.tables.exec = Jvm.exec) (hb : c.code = cc)  (ih : ∀ (pc : Nat) (ls : ac_L) (st : List Value) (h : ac_H) (bg : Nat × Nat), rowOK own isI tr nL sp cc pc is = true → xB call cs ga L xs sl mb hands rt Q J is ls st h bg → xR p l e R s m args below meth c Z D cA A nL mb pc ls st h bg) (hrow : rowOK own isI tr nL sp cc pc ((.i2l, n) :: is) = true) (hxb : xB call cs ga L xs sl mb hands rt Q J ((.i2l, n) :: is) ls st h bg) : xR p l e R s m args below meth c Z D cA A nL mb pc ls st h bg := by
  obtain ⟨ci, hd, hr, hw⟩ := row_step (ai := .i2l) hrow
  obtain ⟨rfl, rfl⟩ := rel_simple hr
  simp only [xB] at hxb
  split at hxb
  · intro hbg H locs la hR hS hl
    exact lv_i2l hx hb hd rfl (ih _ _ _ _ _ hw hxb hbg H locs la hR hS hl)
  · exact hxb.elim
theorem s_l2i (hx : p.tables.exec = Jvm.exec) (hb : c.code = cc)  (ih : ∀ (pc : Nat) (ls : ac_L) (st : List Value) (h : ac_H) (bg : Nat × Nat), rowOK own isI tr nL sp cc pc is = true → xB call cs ga L xs sl mb hands rt Q J is ls st h bg → xR p l e R s m args below meth c Z D cA A nL mb pc ls st h bg) (hrow : rowOK own isI tr nL sp cc pc ((.l2i, n) :: is) = true) (hxb : xB call cs ga L xs sl mb hands rt Q J ((.l2i, n) :: is) ls st h bg) : xR p l e R s m args below meth c Z D cA A nL mb pc ls st h bg := by
  obtain ⟨ci, hd, hr, hw⟩ := row_step (ai := .l2i) hrow
  obtain ⟨rfl, rfl⟩ := rel_simple hr
  simp only [xB] at hxb
  split at hxb
  · intro hbg H locs la hR hS hl
    exact lv_l2i hx hb hd rfl (ih _ _ _ _ _ hw hxb hbg H locs la hR hS hl)
  · exact hxb.elim
theorem s_i2b (hx : p.tables.exec = Jvm.exec) (hb : c.code = cc)  (ih : ∀ (pc : Nat) (ls : ac_L) (st : List Value) (h : ac_H) (bg : Nat × Nat), rowOK own isI tr nL sp cc pc is = true → xB call cs ga L xs sl mb hands rt Q J is ls st h bg → xR p l e R s m args below meth c Z D cA A nL mb pc ls st h bg) (hrow : rowOK own isI tr nL sp cc pc ((.i2b, n) :: is) = true) (hxb : xB call cs ga L xs sl mb hands rt Q J ((.i2b, n) :: is) ls st h bg) : xR p l e R s m args below meth c Z D cA A nL mb pc ls st h bg := by
  obtain ⟨ci, hd, hr, hw⟩ := row_step (ai := .i2b) hrow
  obtain ⟨rfl, rfl⟩ := rel_simple hr
  simp only [xB] at hxb
  split at hxb
  · intro hbg H locs la hR hS hl
    exact lv_i2b hx hb hd rfl (ih _ _ _ _ _ hw hxb hbg H locs la hR hS hl)
  · exact hxb.elim
theorem s_i2s (hx : p.tables.exec = Jvm.exec) (hb : c.code = cc)  (ih : ∀ (pc : Nat) (ls : ac_L) (st : List Value) (h : ac_H) (bg : Nat × Nat), rowOK own isI tr nL sp cc pc is = true → xB call cs ga L xs sl mb hands rt Q J is ls st h bg → xR p l e R s m args below meth c Z D cA A nL mb pc ls st h bg) (hrow : rowOK own isI tr nL sp cc pc ((.i2s, n) :: is) = true) (hxb : xB call cs ga L xs sl mb hands rt Q J ((.i2s, n) :: is) ls st h bg) : xR p l e R s m args below meth c Z D cA A nL mb pc ls st h bg := by
  obtain ⟨ci, hd, hr, hw⟩ := row_step (ai := .i2s) hrow
  obtain ⟨rfl, rfl⟩ := rel_simple hr
  simp only [xB] at hxb
  split at hxb
  · intro hbg H locs la hR hS hl
    exact lv_i2s hx hb hd rfl (ih _ _ _ _ _ hw hxb hbg H locs la hR hS hl)
  · exact hxb.elim
theorem s_i2c (hx : p.tables.exec = Jvm.exec) (hb : c.code = cc)  (ih : ∀ (pc : Nat) (ls : ac_L) (st : List Value) (h : ac_H) (bg : Nat × Nat), rowOK own isI tr nL sp cc pc is = true → xB call cs ga L xs sl mb hands rt Q J is ls st h bg → xR p l e R s m args below meth c Z D cA A nL mb pc ls st h bg) (hrow : rowOK own isI tr nL sp cc pc ((.i2c, n) :: is) = true) (hxb : xB call cs ga L xs sl mb hands rt Q J ((.i2c, n) :: is) ls st h bg) : xR p l e R s m args below meth c Z D cA A nL mb pc ls st h bg := by
  obtain ⟨ci, hd, hr, hw⟩ := row_step (ai := .i2c) hrow
  obtain ⟨rfl, rfl⟩ := rel_simple hr
  simp only [xB] at hxb
  split at hxb
  · intro hbg H locs la hR hS hl
    exact lv_i2c hx hb hd rfl (ih _ _ _ _ _ hw hxb hbg H locs la hR hS hl)
  · exact hxb.elim
theorem s_iushr (hx : p.tables.exec = Jvm.exec) (hb : c.code = cc)  (ih : ∀ (pc : Nat) (ls : ac_L) (st : List Value) (h : ac_H) (bg : Nat × Nat), rowOK own isI tr nL sp cc pc is = true → xB call cs ga L xs sl mb hands rt Q J is ls st h bg → xR p l e R s m args below meth c Z D cA A nL mb pc ls st h bg) (hrow : rowOK own isI tr nL sp cc pc ((.iushr, n) :: is) = true) (hxb : xB call cs ga L xs sl mb hands rt Q J ((.iushr, n) :: is) ls st h bg) : xR p l e R s m args below meth c Z D cA A nL mb pc ls st h bg := by
  obtain ⟨ci, hd, hr, hw⟩ := row_step (ai := .iushr) hrow
  obtain ⟨rfl, rfl⟩ := rel_simple hr
  simp only [xB] at hxb
  split at hxb
  · intro hbg H locs la hR hS hl
    exact lv_iushr hx hb hd rfl (ih _ _ _ _ _ hw hxb hbg H locs la hR hS hl)
  · exact hxb.elim
theorem s_lshl (hx : p.tables.exec = Jvm.exec) (hb : c.code = cc)  (ih : ∀ (pc : Nat) (ls : ac_L) (st : List Value) (h : ac_H) (bg : Nat × Nat), rowOK own isI tr nL sp cc pc is = true → xB call cs ga L xs sl mb hands rt Q J is ls st h bg → xR p l e R s m args below meth c Z D cA A nL mb pc ls st h bg) (hrow : rowOK own isI tr nL sp cc pc ((.lshl, n) :: is) = true) (hxb : xB call cs ga L xs sl mb hands rt Q J ((.lshl, n) :: is) ls st h bg) : xR p l e R s m args below meth c Z D cA A nL mb pc ls st h bg := by
  obtain ⟨ci, hd, hr, hw⟩ := row_step (ai := .lshl) hrow
  obtain ⟨rfl, rfl⟩ := rel_simple hr
  simp only [xB] at hxb
  split at hxb
  · intro hbg H locs la hR hS hl
    exact lv_lshl hx hb hd rfl (ih _ _ _ _ _ hw hxb hbg H locs la hR hS hl)
  · exact hxb.elim
theorem s_lshr (hx : p.tables.exec = Jvm.exec) (hb : c.code = cc)  (ih : ∀ (pc : Nat) (ls : ac_L) (st : List Value) (h : ac_H) (bg : Nat × Nat), rowOK own isI tr nL sp cc pc is = true → xB call cs ga L xs sl mb hands rt Q J is ls st h bg → xR p l e R s m args below meth c Z D cA A nL mb pc ls st h bg) (hrow : rowOK own isI tr nL sp cc pc ((.lshr, n) :: is) = true) (hxb : xB call cs ga L xs sl mb hands rt Q J ((.lshr, n) :: is) ls st h bg) : xR p l e R s m args below meth c Z D cA A nL mb pc ls st h bg := by
  obtain ⟨ci, hd, hr, hw⟩ := row_step (ai := .lshr) hrow
  obtain ⟨rfl, rfl⟩ := rel_simple hr
  simp only [xB] at hxb
  split at hxb
  · intro hbg H locs la hR hS hl
    exact lv_lshr hx hb hd rfl (ih _ _ _ _ _ hw hxb hbg H locs la hR hS hl)
  · exact hxb.elim
theorem s_lcmp (hx : p.tables.exec = Jvm.exec) (hb : c.code = cc)  (ih : ∀ (pc : Nat) (ls : ac_L) (st : List Value) (h : ac_H) (bg : Nat × Nat), rowOK own isI tr nL sp cc pc is = true → xB call cs ga L xs sl mb hands rt Q J is ls st h bg → xR p l e R s m args below meth c Z D cA A nL mb pc ls st h bg) (hrow : rowOK own isI tr nL sp cc pc ((.lcmp, n) :: is) = true) (hxb : xB call cs ga L xs sl mb hands rt Q J ((.lcmp, n) :: is) ls st h bg) : xR p l e R s m args below meth c Z D cA A nL mb pc ls st h bg := by
  obtain ⟨ci, hd, hr, hw⟩ := row_step (ai := .lcmp) hrow
  obtain ⟨rfl, rfl⟩ := rel_simple hr
  simp only [xB] at hxb
  split at hxb
  · intro hbg H locs la hR hS hl
    exact W.lcmp hx hb hd (ih _ _ _ _ _ hw hxb hbg H locs la hR hS hl)
  · exact hxb.elim
theorem s_idiv (hx : p.tables.exec = Jvm.exec) (hb : c.code = cc)  (ih : ∀ (pc : Nat) (ls : ac_L) (st : List Value) (h : ac_H) (bg : Nat × Nat), rowOK own isI tr nL sp cc pc is = true → xB call cs ga L xs sl mb hands rt Q J is ls st h bg → xR p l e R s m args below meth c Z D cA A nL mb pc ls st h bg) (hrow : rowOK own isI tr nL sp cc pc ((.idiv, n) :: is) = true) (hxb : xB call cs ga L xs sl mb hands rt Q J ((.idiv, n) :: is) ls st h bg) : xR p l e R s m args below meth c Z D cA A nL mb pc ls st h bg := by
  obtain ⟨ci, hd, hr, hw⟩ := row_step (ai := .idiv) hrow
  obtain ⟨rfl, rfl⟩ := rel_simple hr
  simp only [xB] at hxb
  split at hxb
  · intro hbg H locs la hR hS hl
    exact lv_idiv hx hb hd hxb.1 (ih _ _ _ _ _ hw hxb.2 hbg H locs la hR hS hl)
  · exact hxb.elim
theorem s_irem (hx : p.tables.exec = Jvm.exec) (hb : c.code = cc)  (ih : ∀ (pc : Nat) (ls : ac_L) (st : List Value) (h : ac_H) (bg : Nat × Nat), rowOK own isI tr nL sp cc pc is = true → xB call cs ga L xs sl mb hands rt Q J is ls st h bg → xR p l e R s m args below meth c Z D cA A nL mb pc ls st h bg) (hrow : rowOK own isI tr nL sp cc pc ((.irem, n) :: is) = true) (hxb : xB call cs ga L xs sl mb hands rt Q J ((.irem, n) :: is) ls st h bg) : xR p l e R s m args below meth c Z D cA A nL mb pc ls st h bg := by
  obtain ⟨ci, hd, hr, hw⟩ := row_step (ai := .irem) hrow
  obtain ⟨rfl, rfl⟩ := rel_simple hr
  simp only [xB] at hxb
  split at hxb
  · intro hbg H locs la hR hS hl
    exact lv_irem hx hb hd hxb.1 (ih _ _ _ _ _ hw hxb.2 hbg H locs la hR hS hl)
  · exact hxb.elim
theorem s_ldiv (hx : p.tables.exec = Jvm.exec) (hb : c.code = cc)  (ih : ∀ (pc : Nat) (ls : ac_L) (st : List Value) (h : ac_H) (bg : Nat × Nat), rowOK own isI tr nL sp cc pc is = true → xB call cs ga L xs sl mb hands rt Q J is ls st h bg → xR p l e R s m args below meth c Z D cA A nL mb pc ls st h bg) (hrow : rowOK own isI tr nL sp cc pc ((.ldiv, n) :: is) = true) (hxb : xB call cs ga L xs sl mb hands rt Q J ((.ldiv, n) :: is) ls st h bg) : xR p l e R s m args below meth c Z D cA A nL mb pc ls st h bg := by
  obtain ⟨ci, hd, hr, hw⟩ := row_step (ai := .ldiv) hrow
  obtain ⟨rfl, rfl⟩ := rel_simple hr
  simp only [xB] at hxb
  split at hxb
  · intro hbg H locs la hR hS hl
    exact lv_ldiv hx hb hd hxb.1 (ih _ _ _ _ _ hw hxb.2 hbg H locs la hR hS hl)
  · exact hxb.elim
theorem s_lrem (hx : p.tables.exec = Jvm.exec) (hb : c.code = cc)  (ih : ∀ (pc : Nat) (ls : ac_L) (st : List Value) (h : ac_H) (bg : Nat × Nat), rowOK own isI tr nL sp cc pc is = true → xB call cs ga L xs sl mb hands rt Q J is ls st h bg → xR p l e R s m args below meth c Z D cA A nL mb pc ls st h bg) (hrow : rowOK own isI tr nL sp cc pc ((.lrem, n) :: is) = true) (hxb : xB call cs ga L xs sl mb hands rt Q J ((.lrem, n) :: is) ls st h bg) : xR p l e R s m args below meth c Z D cA A nL mb pc ls st h bg := by
  obtain ⟨ci, hd, hr, hw⟩ := row_step (ai := .lrem) hrow
  obtain ⟨rfl, rfl⟩ := rel_simple hr
  simp only [xB] at hxb
  split at hxb
  · intro hbg H locs la hR hS hl
    exact lv_lrem hx hb hd hxb.1 (ih _ _ _ _ _ hw hxb.2 hbg H locs la hR hS hl)
  · exact hxb.elim
theorem s_dup (hx : p.tables.exec = Jvm.exec) (hb : c.code = cc)  (ih : ∀ (pc : Nat) (ls : ac_L) (st : List Value) (h : ac_H) (bg : Nat × Nat), rowOK own isI tr nL sp cc pc is = true → xB call cs ga L xs sl mb hands rt Q J is ls st h bg → xR p l e R s m args below meth c Z D cA A nL mb pc ls st h bg) (hrow : rowOK own isI tr nL sp cc pc ((.dup, n) :: is) = true) (hxb : xB call cs ga L xs sl mb hands rt Q J ((.dup, n) :: is) ls st h bg) : xR p l e R s m args below meth c Z D cA A nL mb pc ls st h bg := by
  obtain ⟨ci, hd, hr, hw⟩ := row_step (ai := .dup) hrow
  obtain ⟨rfl, rfl⟩ := rel_simple hr
  simp only [xB] at hxb
  split at hxb
  · intro hbg H locs la hR hS hl
    exact lv_dup hx hb hd rfl (ih _ _ _ _ _ hw hxb hbg H locs la hR hS hl)
  · intro hbg H locs la hR hS hl
    exact lv_dup hx hb hd rfl (ih _ _ _ _ _ hw hxb hbg H locs la hR hS hl)
  · exact hxb.elim
theorem s_pop (hx : p.tables.exec = Jvm.exec) (hb : c.code = cc)  (ih : ∀ (pc : Nat) (ls : ac_L) (st : List Value) (h : ac_H) (bg : Nat × Nat), rowOK own isI tr nL sp cc pc is = true → xB call cs ga L xs sl mb hands rt Q J is ls st h bg → xR p l e R s m args below meth c Z D cA A nL mb pc ls st h bg) (hrow : rowOK own isI tr nL sp cc pc ((.pop, n) :: is) = true) (hxb : xB call cs ga L xs sl mb hands rt Q J ((.pop, n) :: is) ls st h bg) : xR p l e R s m args below meth c Z D cA A nL mb pc ls st h bg := by
  obtain ⟨ci, hd, hr, hw⟩ := row_step (ai := .pop) hrow
  obtain ⟨rfl, rfl⟩ := rel_simple hr
  simp only [xB] at hxb
  split at hxb
  · intro hbg H locs la hR hS hl
    exact lv_pop hx hb hd rfl (ih _ _ _ _ _ hw hxb hbg H locs la hR hS hl)
  · intro hbg H locs la hR hS hl
    exact lv_pop hx hb hd rfl (ih _ _ _ _ _ hw hxb hbg H locs la hR hS hl)
  · exact hxb.elim
theorem s_pop2 (hx : p.tables.exec = Jvm.exec) (hb : c.code = cc)  (ih : ∀ (pc : Nat) (ls : ac_L) (st : List Value) (h : ac_H) (bg : Nat × Nat), rowOK own isI tr nL sp cc pc is = true → xB call cs ga L xs sl mb hands rt Q J is ls st h bg → xR p l e R s m args below meth c Z D cA A nL mb pc ls st h bg) (hrow : rowOK own isI tr nL sp cc pc ((.pop2, n) :: is) = true) (hxb : xB call cs ga L xs sl mb hands rt Q J ((.pop2, n) :: is) ls st h bg) : xR p l e R s m args below meth c Z D cA A nL mb pc ls st h bg := by
  obtain ⟨ci, hd, hr, hw⟩ := row_step (ai := .pop2) hrow
  obtain ⟨rfl, rfl⟩ := rel_simple hr
  simp only [xB] at hxb
  split at hxb
  · intro hbg H locs la hR hS hl
    exact lv_pop2_2 hx hb hd rfl (ih _ _ _ _ _ hw hxb hbg H locs la hR hS hl)
  · exact hxb.elim
theorem s_dup2 (hx : p.tables.exec = Jvm.exec) (hb : c.code = cc)  (ih : ∀ (pc : Nat) (ls : ac_L) (st : List Value) (h : ac_H) (bg : Nat × Nat), rowOK own isI tr nL sp cc pc is = true → xB call cs ga L xs sl mb hands rt Q J is ls st h bg → xR p l e R s m args below meth c Z D cA A nL mb pc ls st h bg) (hrow : rowOK own isI tr nL sp cc pc ((.dup2, n) :: is) = true) (hxb : xB call cs ga L xs sl mb hands rt Q J ((.dup2, n) :: is) ls st h bg) : xR p l e R s m args below meth c Z D cA A nL mb pc ls st h bg := by
  obtain ⟨ci, hd, hr, hw⟩ := row_step (ai := .dup2) hrow
  obtain ⟨rfl, rfl⟩ := rel_simple hr
  simp only [xB] at hxb
  split at hxb
  · intro hbg H locs la hR hS hl
    exact lv_dup2_11 hx hb hd rfl rfl (ih _ _ _ _ _ hw hxb hbg H locs la hR hS hl)
  · intro hbg H locs la hR hS hl
    exact lv_dup2_2 hx hb hd rfl (ih _ _ _ _ _ hw hxb hbg H locs la hR hS hl)
  · exact hxb.elim
theorem s_iload (hx : p.tables.exec = Jvm.exec) (hb : c.code = cc) {i : Nat} (ih : ∀ (pc : Nat) (ls : ac_L) (st : List Value) (h : ac_H) (bg : Nat × Nat), rowOK own isI tr nL sp cc pc is = true → xB call cs ga L xs sl mb hands rt Q J is ls st h bg → xR p l e R s m args below meth c Z D cA A nL mb pc ls st h bg) (hrow : rowOK own isI tr nL sp cc pc ((.iload i, n) :: is) = true) (hxb : xB call cs ga L xs sl mb hands rt Q J ((.iload i, n) :: is) ls st h bg) : xR p l e R s m args below meth c Z D cA A nL mb pc ls st h bg := by
  obtain ⟨ci, hd, hr, hw⟩ := row_step (ai := .iload i) hrow
  simp only [xB] at hxb
  split at hxb
  · rename_i v hg
    intro hbg H locs la hR hS hl
    have hla := lv_get hl hg
    simp only [rel] at hr
    split at hr
    · simp only [Bool.and_eq_true, beq_iff_eq] at hr
      obtain ⟨rfl, rfl⟩ := hr
      exact lv_iload hx hb hd hla (ih _ _ _ _ _ hw hxb hbg H locs la hR hS hl)
    · simp only [Bool.and_eq_true, beq_iff_eq] at hr
      obtain ⟨rfl, hj⟩ := hr
      exact lv_iload_n hx hb hd hj hla (ih _ _ _ _ _ hw hxb hbg H locs la hR hS hl)
    · cases hr
  · exact hxb.elim
theorem s_lload (hx : p.tables.exec = Jvm.exec) (hb : c.code = cc) {i : Nat} (ih : ∀ (pc : Nat) (ls : ac_L) (st : List Value) (h : ac_H) (bg : Nat × Nat), rowOK own isI tr nL sp cc pc is = true → xB call cs ga L xs sl mb hands rt Q J is ls st h bg → xR p l e R s m args below meth c Z D cA A nL mb pc ls st h bg) (hrow : rowOK own isI tr nL sp cc pc ((.lload i, n) :: is) = true) (hxb : xB call cs ga L xs sl mb hands rt Q J ((.lload i, n) :: is) ls st h bg) : xR p l e R s m args below meth c Z D cA A nL mb pc ls st h bg := by
  obtain ⟨ci, hd, hr, hw⟩ := row_step (ai := .lload i) hrow
  simp only [xB] at hxb
  split at hxb
  · rename_i v hg
    intro hbg H locs la hR hS hl
    have hla := lv_get hl hg
    simp only [rel] at hr
    split at hr
    · simp only [Bool.and_eq_true, beq_iff_eq] at hr
      obtain ⟨rfl, rfl⟩ := hr
      exact lv_lload hx hb hd hla (ih _ _ _ _ _ hw hxb hbg H locs la hR hS hl)
    · simp only [Bool.and_eq_true, beq_iff_eq] at hr
      obtain ⟨rfl, hj⟩ := hr
      exact lv_lload_n hx hb hd hj hla (ih _ _ _ _ _ hw hxb hbg H locs la hR hS hl)
    · cases hr
  · exact hxb.elim
theorem s_aload (hx : p.tables.exec = Jvm.exec) (hb : c.code = cc) {i : Nat} (ih : ∀ (pc : Nat) (ls : ac_L) (st : List Value) (h : ac_H) (bg : Nat × Nat), rowOK own isI tr nL sp cc pc is = true → xB call cs ga L xs sl mb hands rt Q J is ls st h bg → xR p l e R s m args below meth c Z D cA A nL mb pc ls st h bg) (hrow : rowOK own isI tr nL sp cc pc ((.aload i, n) :: is) = true) (hxb : xB call cs ga L xs sl mb hands rt Q J ((.aload i, n) :: is) ls st h bg) : xR p l e R s m args below meth c Z D cA A nL mb pc ls st h bg := by
  obtain ⟨ci, hd, hr, hw⟩ := row_step (ai := .aload i) hrow
  simp only [xB] at hxb
  split at hxb
  · rename_i v hg
    intro hbg H locs la hR hS hl
    have hla := lv_get hl hg
    simp only [rel] at hr
    split at hr
    · simp only [Bool.and_eq_true, beq_iff_eq] at hr
      obtain ⟨rfl, rfl⟩ := hr
      exact lv_aload hx hb hd hla (ih _ _ _ _ _ hw hxb hbg H locs la hR hS hl)
    · simp only [Bool.and_eq_true, beq_iff_eq] at hr
      obtain ⟨rfl, hj⟩ := hr
      exact lv_aload_n hx hb hd hj hla (ih _ _ _ _ _ hw hxb hbg H locs la hR hS hl)
    · cases hr
  · exact hxb.elim
theorem s_istore (hx : p.tables.exec = Jvm.exec) (hb : c.code = cc) {i : Nat} (ih : ∀ (pc : Nat) (ls : ac_L) (st : List Value) (h : ac_H) (bg : Nat × Nat), rowOK own isI tr nL sp cc pc is = true → xB call cs ga L xs sl mb hands rt Q J is ls st h bg → xR p l e R s m args below meth c Z D cA A nL mb pc ls st h bg) (hrow : rowOK own isI tr nL sp cc pc ((.istore i, n) :: is) = true) (hxb : xB call cs ga L xs sl mb hands rt Q J ((.istore i, n) :: is) ls st h bg) : xR p l e R s m args below meth c Z D cA A nL mb pc ls st h bg := by
  obtain ⟨ci, hd, hr, hw⟩ := row_step (ai := .istore i) hrow
  simp only [xB] at hxb
  split at hxb
  · intro hbg H locs la hR hS hl
    simp only [rel] at hr
    split at hr
    · simp only [Bool.and_eq_true, beq_iff_eq, decide_eq_true_eq] at hr
      obtain ⟨⟨rfl, rfl⟩, hi⟩ := hr
      exact lv_istore hx hb hd hl hi rfl (fun la2 hl2 => ih _ _ _ _ _ hw hxb.2 hbg H locs la2 hR hS (lv_put1 hxb.1 hl2))
    · simp only [Bool.and_eq_true, beq_iff_eq, decide_eq_true_eq] at hr
      obtain ⟨⟨rfl, hj⟩, hi⟩ := hr
      exact lv_istore_n hx hb hd hj hl hi rfl (fun la2 hl2 => ih _ _ _ _ _ hw hxb.2 hbg H locs la2 hR hS (lv_put1 hxb.1 hl2))
    · cases hr
  · exact hxb.elim
theorem s_astore (hx : p.tables.exec = Jvm.exec) (hb : c.code = cc) {i : Nat} (ih : ∀ (pc : Nat) (ls : ac_L) (st : List Value) (h : ac_H) (bg : Nat × Nat), rowOK own isI tr nL sp cc pc is = true → xB call cs ga L xs sl mb hands rt Q J is ls st h bg → xR p l e R s m args below meth c Z D cA A nL mb pc ls st h bg) (hrow : rowOK own isI tr nL sp cc pc ((.astore i, n) :: is) = true) (hxb : xB call cs ga L xs sl mb hands rt Q J ((.astore i, n) :: is) ls st h bg) : xR p l e R s m args below meth c Z D cA A nL mb pc ls st h bg := by
  obtain ⟨ci, hd, hr, hw⟩ := row_step (ai := .astore i) hrow
  simp only [xB] at hxb
  split at hxb
  · intro hbg H locs la hR hS hl
    simp only [rel] at hr
    split at hr
    · simp only [Bool.and_eq_true, beq_iff_eq, decide_eq_true_eq] at hr
      obtain ⟨⟨rfl, rfl⟩, hi⟩ := hr
      exact lv_astore hx hb hd hl hi rfl (fun la2 hl2 => ih _ _ _ _ _ hw hxb.2 hbg H locs la2 hR hS (lv_put1 hxb.1 hl2))
    · simp only [Bool.and_eq_true, beq_iff_eq, decide_eq_true_eq] at hr
      obtain ⟨⟨rfl, hj⟩, hi⟩ := hr
      exact lv_astore_n hx hb hd hj hl hi rfl (fun la2 hl2 => ih _ _ _ _ _ hw hxb.2 hbg H locs la2 hR hS (lv_put1 hxb.1 hl2))
    · cases hr
  · exact hxb.elim
theorem s_lstore (hx : p.tables.exec = Jvm.exec) (hb : c.code = cc) {i : Nat} (ih : ∀ (pc : Nat) (ls : ac_L) (st : List Value) (h : ac_H) (bg : Nat × Nat), rowOK own isI tr nL sp cc pc is = true → xB call cs ga L xs sl mb hands rt Q J is ls st h bg → xR p l e R s m args below meth c Z D cA A nL mb pc ls st h bg) (hrow : rowOK own isI tr nL sp cc pc ((.lstore i, n) :: is) = true) (hxb : xB call cs ga L xs sl mb hands rt Q J ((.lstore i, n) :: is) ls st h bg) : xR p l e R s m args below meth c Z D cA A nL mb pc ls st h bg := by
  obtain ⟨ci, hd, hr, hw⟩ := row_step (ai := .lstore i) hrow
  simp only [xB] at hxb
  split at hxb
  · intro hbg H locs la hR hS hl
    simp only [rel] at hr
    split at hr
    · simp only [Bool.and_eq_true, beq_iff_eq, decide_eq_true_eq] at hr
      obtain ⟨⟨rfl, rfl⟩, hi⟩ := hr
      exact lv_lstore hx hb hd hl hi rfl (fun la2 hl2 => ih _ _ _ _ _ hw hxb.2 hbg H locs la2 hR hS (lv_put2 hxb.1 hl2))
    · simp only [Bool.and_eq_true, beq_iff_eq, decide_eq_true_eq] at hr
      obtain ⟨⟨rfl, hj⟩, hi⟩ := hr
      exact lv_lstore_n hx hb hd hj hl hi rfl (fun la2 hl2 => ih _ _ _ _ _ hw hxb.2 hbg H locs la2 hR hS (lv_put2 hxb.1 hl2))
    · cases hr
  · exact hxb.elim
theorem s_iinc (hx : p.tables.exec = Jvm.exec) (hb : c.code = cc) {i : Nat} {k : Int} (ih : ∀ (pc : Nat) (ls : ac_L) (st : List Value) (h : ac_H) (bg : Nat × Nat), rowOK own isI tr nL sp cc pc is = true → xB call cs ga L xs sl mb hands rt Q J is ls st h bg → xR p l e R s m args below meth c Z D cA A nL mb pc ls st h bg) (hrow : rowOK own isI tr nL sp cc pc ((.iinc i k, n) :: is) = true) (hxb : xB call cs ga L xs sl mb hands rt Q J ((.iinc i k, n) :: is) ls st h bg) : xR p l e R s m args below meth c Z D cA A nL mb pc ls st h bg := by
  obtain ⟨ci, hd, hr, hw⟩ := row_step (ai := .iinc i k) hrow
  simp only [xB] at hxb
  split at hxb
  · rename_i v hg
    intro hbg H locs la hR hS hl
    simp only [rel] at hr
    split at hr
    · simp only [Bool.and_eq_true, beq_iff_eq, decide_eq_true_eq] at hr
      obtain ⟨⟨⟨rfl, rfl⟩, rfl⟩, hi⟩ := hr
      obtain ⟨kk, hkk⟩ := List.getElem?_of_mem (lvf_mem0.mpr hg)
      exact lv_iinc hx hb hd hl hkk rfl hi rfl (fun la2 hl2 => ih _ _ _ _ _ hw hxb.2 hbg H locs la2 hR hS (lv_put1 hxb.1 hl2))
    · cases hr
  · exact hxb.elim
theorem s_ifCond (hx : p.tables.exec = Jvm.exec) (hb : c.code = cc) {d : ClassFile.Cond} {b : Int} (hJ : ∀ (b t : Nat), sp[b]? = some t → ∀ ls st h bg, J b ls st h bg → xR p l e R s m args below meth c Z D cA A nL mb t ls st h bg) (ih : ∀ (pc : Nat) (ls : ac_L) (st : List Value) (h : ac_H) (bg : Nat × Nat), rowOK own isI tr nL sp cc pc is = true → xB call cs ga L xs sl mb hands rt Q J is ls st h bg → xR p l e R s m args below meth c Z D cA A nL mb pc ls st h bg) (hrow : rowOK own isI tr nL sp cc pc ((.ifCond d b, n) :: is) = true) (hxb : xB call cs ga L xs sl mb hands rt Q J ((.ifCond d b, n) :: is) ls st h bg) : xR p l e R s m args below meth c Z D cA A nL mb pc ls st h bg := by
  obtain ⟨ci, hd, hr, hw⟩ := row_step (ai := .ifCond d b) hrow
  simp only [xB] at hxb
  split at hxb
  · intro hbg H locs la hR hS hl
    simp only [rel] at hr
    split at hr
    · simp only [Bool.and_eq_true, beq_iff_eq, decide_eq_true_eq] at hr
      obtain ⟨⟨rfl, rfl⟩, hj⟩ := hr
      obtain ⟨t, ht, hto⟩ := jOK_at hj
      have k1 := fun h9 => hJ b.toNat t ht _ _ _ _ (hxb.1 h9) hbg H locs la hR hS hl
      have k2 := fun h9 => ih _ _ _ _ _ hw (hxb.2 h9) hbg H locs la hR hS hl
      cases d
      · exact lv_if_eq hx hb hd hto k1 k2
      · exact lv_if_ne hx hb hd hto k1 (fun q => k2 (fun z => z q))
      · exact lv_if_lt hx hb hd hto k1 k2
      · exact lv_if_ge hx hb hd hto k1 k2
      · exact lv_if_gt hx hb hd hto k1 k2
      · exact lv_if_le hx hb hd hto k1 k2
    · cases hr
  · exact hxb.elim
theorem s_if_icmp (hx : p.tables.exec = Jvm.exec) (hb : c.code = cc) {d : ClassFile.Cond} {b : Int} (hJ : ∀ (b t : Nat), sp[b]? = some t → ∀ ls st h bg, J b ls st h bg → xR p l e R s m args below meth c Z D cA A nL mb t ls st h bg) (ih : ∀ (pc : Nat) (ls : ac_L) (st : List Value) (h : ac_H) (bg : Nat × Nat), rowOK own isI tr nL sp cc pc is = true → xB call cs ga L xs sl mb hands rt Q J is ls st h bg → xR p l e R s m args below meth c Z D cA A nL mb pc ls st h bg) (hrow : rowOK own isI tr nL sp cc pc ((.if_icmp d b, n) :: is) = true) (hxb : xB call cs ga L xs sl mb hands rt Q J ((.if_icmp d b, n) :: is) ls st h bg) : xR p l e R s m args below meth c Z D cA A nL mb pc ls st h bg := by
  obtain ⟨ci, hd, hr, hw⟩ := row_step (ai := .if_icmp d b) hrow
  simp only [xB] at hxb
  split at hxb
  · intro hbg H locs la hR hS hl
    simp only [rel] at hr
    split at hr
    · simp only [Bool.and_eq_true, beq_iff_eq, decide_eq_true_eq] at hr
      obtain ⟨⟨rfl, rfl⟩, hj⟩ := hr
      obtain ⟨t, ht, hto⟩ := jOK_at hj
      have k1 := fun h9 => hJ b.toNat t ht _ _ _ _ (hxb.1 h9) hbg H locs la hR hS hl
      have k2 := fun h9 => ih _ _ _ _ _ hw (hxb.2 h9) hbg H locs la hR hS hl
      cases d
      · exact lv_icmp_eq hx hb hd hto k1 k2
      · exact lv_icmp_ne hx hb hd hto k1 (fun q => k2 (fun z => z q))
      · exact lv_icmp_lt hx hb hd hto k1 k2
      · exact lv_icmp_ge hx hb hd hto k1 k2
      · exact lv_icmp_gt hx hb hd hto k1 k2
      · exact lv_icmp_le hx hb hd hto k1 k2
    · cases hr
  · exact hxb.elim
theorem s_goto (hx : p.tables.exec = Jvm.exec) (hb : c.code = cc) {b : Int} (hJ : ∀ (b t : Nat), sp[b]? = some t → ∀ ls st h bg, J b ls st h bg → xR p l e R s m args below meth c Z D cA A nL mb t ls st h bg) (hrow : rowOK own isI tr nL sp cc pc ((.goto b, n) :: is) = true) (hxb : xB call cs ga L xs sl mb hands rt Q J ((.goto b, n) :: is) ls st h bg) : xR p l e R s m args below meth c Z D cA A nL mb pc ls st h bg := by
  simp only [xB] at hxb
  cases n with
  | zero =>
    have h1 : (is.isEmpty && (match sp[b.toNat]? with | some t => t == pc | none => false)) = true := hrow
    rw [Bool.and_eq_true] at h1
    obtain ⟨-, h1⟩ := h1
    cases hs : sp[b.toNat]? with
    | none => rw [hs] at h1; cases h1
    | some t =>
      rw [hs] at h1
      have e : t = pc := by simpa using h1
      subst e
      exact hJ _ _ hs _ _ _ _ hxb
  | succ n =>
    obtain ⟨ci, hd, hr, -⟩ := row_step (ai := .goto b) hrow
    simp only [rel] at hr
    split at hr
    · simp only [Bool.and_eq_true, beq_iff_eq] at hr
      obtain ⟨hn, hj⟩ := hr
      obtain ⟨t, ht, hto⟩ := jOK_at hj
      intro hbg H locs la hR hS hl
      rw [hn] at hd
      exact lv_goto hx hb hd hto (hJ _ _ ht _ _ _ _ hxb hbg H locs la hR hS hl)
    · cases hr
end SND
end
section
/-! ===== steps that look at the heap ===== -/
theorem gF_at {k : Nat} {h : ac_H} {a : Nat} {v : Value} (hg : gF k h a = some v) : ∃ fs, h a = some (.inr (k / 32, fs)) ∧ fs[k % 32]? = some v := by
  unfold gF at hg
  split at hg
  · rename_i c fs hh
    split at hg
    · rename_i e
      subst e
      exact ⟨fs, hh, hg⟩
    · cases hg
  · cases hg
theorem pF_at {k : Nat} {h h1 : ac_H} {a : Nat} {v : Value} (hg : pF k h a v = some h1) : ∃ fs, h a = some (.inr (k / 32, fs)) ∧ k % 32 < fs.length ∧ h1 = hup h a (.inr (k / 32, fs.set (k % 32) v)) := by
  unfold pF at hg
  split at hg
  · rename_i c fs hh
    split at hg
    · rename_i e
      obtain ⟨e, hl⟩ := e
      subst e
      exact ⟨fs, hh, hl, (Option.some.inj hg).symm⟩
    · cases hg
  · cases hg
theorem catsum : ∀ l : List Value, (l.map fun v => v.category).sum ≤ 2 * l.length
  | [] => by simp
  | v :: l => by
    have h1 := catsum l
    have h2 : v.category ≤ 2 := by rcases lv_cat v with h | h <;> omega
    simp only [List.map_cons, List.sum_cons, List.length_cons]
    omega
theorem any3 {own k j : Nat} {T : List (Nat × Nat × Nat × Nat)} (h : (T.any (fun q => q.1 == own && q.2.1 == k && q.2.2.1 == j)) = true) : ∃ i, (own, k, j, i) ∈ T := by
  obtain ⟨q, hq, h1⟩ := List.any_eq_true.mp h
  simp only [Bool.and_eq_true, beq_iff_eq] at h1
  obtain ⟨⟨rfl, rfl⟩, rfl⟩ := h1
  exact ⟨_, hq⟩
section SNH
variable {p : Program} {l : Launch} {e : Env} {R : Room} {s : State} {m : MethodId} {args : Array Value} {below : List Frame} {meth : Method} {c : Code} {Z : State → Prop} {D : va_G} {cA : Nat → ClassId} {A : Nat → Prop}
variable {cc : ByteArray} {own : Nat} {isI : Bool} {tr : Nat} {nL : Nat} {sp : List Nat}
variable {call : Nat → List Value → ac_H → ac_P → Prop} {cs : Nat → Nat × Nat} {ga : Nat → Nat} {L : Nat} {xs : Nat → Int32} {sl : Nat → List Int32} {mb : Nat × Nat} {hands : List (Nat × Int)} {rt : Option FieldType} {Q : ac_P} {J : Nat → ac_X}
variable {is : ac_I} {ls : ac_L} {st : List Value} {h : ac_H} {bg : Nat × Nat} {pc n : Nat}

theorem s_getfield (hx : p.tables.exec = Jvm.exec) (hb : c.code = cc) (hts : ∀ w ∈ WG, w.before args s = true) (hown : s.vm.findClass (oR own) = some m.cls) (hK : va_K D vwCl (tysK cA) s) {k : Nat} (ih : ∀ (pc : Nat) (ls : ac_L) (st : List Value) (h : ac_H) (bg : Nat × Nat), rowOK own isI tr nL sp cc pc is = true → xB call cs ga L xs sl mb hands rt Q J is ls st h bg → xR p l e R s m args below meth c Z D cA A nL mb pc ls st h bg) (hrow : rowOK own isI tr nL sp cc pc ((.getfield k, n) :: is) = true) (hxb : xB call cs ga L xs sl mb hands rt Q J ((.getfield k, n) :: is) ls st h bg) : xR p l e R s m args below meth c Z D cA A nL mb pc ls st h bg := by
  obtain ⟨ci, hd, hr, hw⟩ := row_step (ai := .getfield k) hrow
  simp only [xB] at hxb
  split at hxb
  · split at hxb
    · rename_i v hg
      intro hbg H locs la hR hS hl
      simp only [rel] at hr
      split at hr
      · rw [Bool.and_eq_true, beq_iff_eq] at hr
        obtain ⟨rfl, hr⟩ := hr
        obtain ⟨i9, hq⟩ := any3 hr
        have hf := fld_ok _ hq
        have hf2 := fld_ok2 _ hq
        obtain ⟨fs, hh, hv⟩ := gF_at hg
        obtain ⟨dom, hd1, hP, hD⟩ := id hR
        obtain ⟨i, hi⟩ := xRel.at (D := D) (cA := cA) (A := A) (H := H) hd1 hh
        obtain ⟨C, T, N, ty, c1, c2, c3, c4, c5, c6, c7, c8, c9, c10⟩ := clAll hf2.1
        have hk : k % 32 < N := by rw [c3]; exact hf2.2.1
        have eT : T (k % 32) = fT k := by rw [c5 _ hk, Nat.div_add_mod]
        exact va_get (ref := (fT k).1) hx hb hts c4 hown hK hP i (by rw [cwK_at hi, hh]; rfl) c1 (k % 32) hk (by rw [eT]; exact wg hts hf rfl) (by rw [eT]; exact fun _ h => h) hv hd (ih _ _ _ _ _ hw hxb hbg H locs la hR hS hl)
      · cases hr
    · exact hxb.elim
  · exact hxb.elim
theorem s_putfield (hx : p.tables.exec = Jvm.exec) (hb : c.code = cc) (hts : ∀ w ∈ WG, w.before args s = true) (hown : s.vm.findClass (oR own) = some m.cls) (hK : va_K D vwCl (tysK cA) s) {k : Nat} (hI : isI = true → meth.name = "<init>") (ih : ∀ (pc : Nat) (ls : ac_L) (st : List Value) (h : ac_H) (bg : Nat × Nat), rowOK own isI tr nL sp cc pc is = true → xB call cs ga L xs sl mb hands rt Q J is ls st h bg → xR p l e R s m args below meth c Z D cA A nL mb pc ls st h bg) (hrow : rowOK own isI tr nL sp cc pc ((.putfield k, n) :: is) = true) (hxb : xB call cs ga L xs sl mb hands rt Q J ((.putfield k, n) :: is) ls st h bg) : xR p l e R s m args below meth c Z D cA A nL mb pc ls st h bg := by
  obtain ⟨ci, hd, hr, hw⟩ := row_step (ai := .putfield k) hrow
  simp only [xB] at hxb
  split at hxb
  · rename_i v a s1
    obtain ⟨hok, hxb⟩ := hxb
    split at hxb
    · rename_i h1 hp
      intro hbg H locs la hR hS hl
      simp only [rel] at hr
      split at hr
      · rw [Bool.and_eq_true, Bool.and_eq_true, beq_iff_eq] at hr
        obtain ⟨⟨rfl, hr⟩, hfi⟩ := hr
        obtain ⟨i9, hq⟩ := any3 hr
        have hf := fld_ok _ hq
        have hf2 := fld_ok2 _ hq
        obtain ⟨fs, hh, hlen, rfl⟩ := pF_at hp
        obtain ⟨dom, hd1, hP, hD⟩ := id hR
        obtain ⟨i, hi⟩ := xRel.at (D := D) (cA := cA) (A := A) (H := H) hd1 hh
        obtain ⟨C, T, N, ty, c1, c2, c3, c4, c5, c6, c7, c8, c9, c10⟩ := clAll hf2.1
        have hk : k % 32 < N := by rw [c3]; exact hf2.2.1
        have eT : T (k % 32) = fT k := by rw [c5 _ hk, Nat.div_add_mod]
        have eY : ty (k % 32) = fty k := by rw [c6 _ hk, Nat.div_add_mod]
        have hgo : ∀ (H1 : Heap) (locs1 : List Loc), va_P D vwCl ((cwK cA h dom).set i (a, .inr (k / 32, fs.set (k % 32) v))) H1 → va_D A ((cwK cA h dom).set i (a, .inr (k / 32, fs.set (k % 32) v))) → va_S A s.heap H1 locs1 → W p l e R s m args below meth c H1 locs1 bg.1 bg.2 Z (F0 m (pc + 3) la s1) := by
          intro H1 locs1 hP1 hD1 hS1
          have e := cwK_set hD hi (.inr (k / 32, fs.set (k % 32) v))
          exact ih _ _ _ _ _ hw hxb hbg H1 locs1 la (xRel.put hd1 hh (e ▸ hP1) (e ▸ hD1)) hS1 hl
        cases hfin : (fT k).2.2.2 with
        | false => exact va_put (ref := (fT k).1) hx hb hts c4 ty c7 c8 hown hK hP hD hS i (by rw [cwK_at hi, hh]; rfl) c1 (k % 32) hk (by rw [eT]; exact wg hts hf rfl) (by rw [eT]; exact fun _ h => h) (by rw [eT]; exact hfin) (ty := ty (k % 32)) (c7 _ hk) (by rw [eY]; exact hok.1) (by rw [eY]; exact hok.2) hlen hd hgo
        | true =>
          rw [hfin] at hfi
          simp only [Bool.not_true, Bool.false_or, Bool.and_eq_true, beq_iff_eq] at hfi
          exact va_putF (ref := (fT k).1) hx hb hts c4 ty c7 c8 hown hK hP hD hS i (by rw [cwK_at hi, hh]; rfl) c1 (k % 32) hk (by rw [eT]; exact wg hts hf rfl) (by rw [eT]; exact fun _ h => h) (by rw [eT]; exact hfin) (hI hfi.1) (by rw [eT, hf2.2.2, hfi.2]) (ty := ty (k % 32)) (c7 _ hk) (by rw [eY]; exact hok.1) (by rw [eY]; exact hok.2) hlen hd hgo
      · cases hr
    · exact hxb.elim
  · exact hxb.elim
theorem s_iaload (hx : p.tables.exec = Jvm.exec) (hb : c.code = cc) (hts : ∀ w ∈ WG, w.before args s = true) (hown : s.vm.findClass (oR own) = some m.cls) (hK : va_K D vwCl (tysK cA) s)  (ih : ∀ (pc : Nat) (ls : ac_L) (st : List Value) (h : ac_H) (bg : Nat × Nat), rowOK own isI tr nL sp cc pc is = true → xB call cs ga L xs sl mb hands rt Q J is ls st h bg → xR p l e R s m args below meth c Z D cA A nL mb pc ls st h bg) (hrow : rowOK own isI tr nL sp cc pc ((.iaload, n) :: is) = true) (hxb : xB call cs ga L xs sl mb hands rt Q J ((.iaload, n) :: is) ls st h bg) : xR p l e R s m args below meth c Z D cA A nL mb pc ls st h bg := by
  obtain ⟨ci, hd, hr, hw⟩ := row_step (ai := .iaload) hrow
  simp only [xB] at hxb
  split at hxb
  · split at hxb
    · rename_i hh
      intro hbg H locs la hR hS hl
      obtain ⟨rfl, rfl⟩ := rel_simple hr
      obtain ⟨dom, hd1, hP, hD⟩ := id hR
      obtain ⟨i9, hi⟩ := xRel.at (D := D) (cA := cA) (A := A) (H := H) hd1 hh
      exact va_iald hx hb hK hP i9 0 (by rw [cwK_at hi, hh]; rfl) (tysK_at cA (by decide)) hxb.1 hd (ih _ _ _ _ _ hw hxb.2 hbg H locs la hR hS hl)
    · exact hxb.elim
  · exact hxb.elim
theorem s_laload (hx : p.tables.exec = Jvm.exec) (hb : c.code = cc) (hts : ∀ w ∈ WG, w.before args s = true) (hown : s.vm.findClass (oR own) = some m.cls) (hK : va_K D vwCl (tysK cA) s)  (ih : ∀ (pc : Nat) (ls : ac_L) (st : List Value) (h : ac_H) (bg : Nat × Nat), rowOK own isI tr nL sp cc pc is = true → xB call cs ga L xs sl mb hands rt Q J is ls st h bg → xR p l e R s m args below meth c Z D cA A nL mb pc ls st h bg) (hrow : rowOK own isI tr nL sp cc pc ((.laload, n) :: is) = true) (hxb : xB call cs ga L xs sl mb hands rt Q J ((.laload, n) :: is) ls st h bg) : xR p l e R s m args below meth c Z D cA A nL mb pc ls st h bg := by
  obtain ⟨ci, hd, hr, hw⟩ := row_step (ai := .laload) hrow
  simp only [xB] at hxb
  split at hxb
  · split at hxb
    · rename_i hh
      intro hbg H locs la hR hS hl
      obtain ⟨rfl, rfl⟩ := rel_simple hr
      obtain ⟨dom, hd1, hP, hD⟩ := id hR
      obtain ⟨i9, hi⟩ := xRel.at (D := D) (cA := cA) (A := A) (H := H) hd1 hh
      exact va_lald hx hb hK hP i9 1 (by rw [cwK_at hi, hh]; rfl) (tysK_at cA (by decide)) hxb.1 hd (ih _ _ _ _ _ hw hxb.2 hbg H locs la hR hS hl)
    · exact hxb.elim
  · exact hxb.elim
theorem s_baload (hx : p.tables.exec = Jvm.exec) (hb : c.code = cc) (hts : ∀ w ∈ WG, w.before args s = true) (hown : s.vm.findClass (oR own) = some m.cls) (hK : va_K D vwCl (tysK cA) s)  (ih : ∀ (pc : Nat) (ls : ac_L) (st : List Value) (h : ac_H) (bg : Nat × Nat), rowOK own isI tr nL sp cc pc is = true → xB call cs ga L xs sl mb hands rt Q J is ls st h bg → xR p l e R s m args below meth c Z D cA A nL mb pc ls st h bg) (hrow : rowOK own isI tr nL sp cc pc ((.baload, n) :: is) = true) (hxb : xB call cs ga L xs sl mb hands rt Q J ((.baload, n) :: is) ls st h bg) : xR p l e R s m args below meth c Z D cA A nL mb pc ls st h bg := by
  obtain ⟨ci, hd, hr, hw⟩ := row_step (ai := .baload) hrow
  simp only [xB] at hxb
  split at hxb
  · split at hxb
    · rename_i hh
      intro hbg H locs la hR hS hl
      obtain ⟨rfl, rfl⟩ := rel_simple hr
      obtain ⟨dom, hd1, hP, hD⟩ := id hR
      obtain ⟨i9, hi⟩ := xRel.at (D := D) (cA := cA) (A := A) (H := H) hd1 hh
      exact va_zald hx hb hK hP i9 2 (by rw [cwK_at hi, hh]; rfl) (tysK_at cA (by decide)) hxb.1 hd (ih _ _ _ _ _ hw hxb.2 hbg H locs la hR hS hl)
    · rename_i hh
      intro hbg H locs la hR hS hl
      obtain ⟨rfl, rfl⟩ := rel_simple hr
      obtain ⟨dom, hd1, hP, hD⟩ := id hR
      obtain ⟨i9, hi⟩ := xRel.at (D := D) (cA := cA) (A := A) (H := H) hd1 hh
      exact va_bald hx hb hK hP i9 3 (by rw [cwK_at hi, hh]; rfl) (tysK_at cA (by decide)) hxb.1 hd (ih _ _ _ _ _ hw hxb.2 hbg H locs la hR hS hl)
    · exact hxb.elim
  · exact hxb.elim
theorem s_iastore (hx : p.tables.exec = Jvm.exec) (hb : c.code = cc) (hts : ∀ w ∈ WG, w.before args s = true) (hown : s.vm.findClass (oR own) = some m.cls) (hK : va_K D vwCl (tysK cA) s)  (ih : ∀ (pc : Nat) (ls : ac_L) (st : List Value) (h : ac_H) (bg : Nat × Nat), rowOK own isI tr nL sp cc pc is = true → xB call cs ga L xs sl mb hands rt Q J is ls st h bg → xR p l e R s m args below meth c Z D cA A nL mb pc ls st h bg) (hrow : rowOK own isI tr nL sp cc pc ((.iastore, n) :: is) = true) (hxb : xB call cs ga L xs sl mb hands rt Q J ((.iastore, n) :: is) ls st h bg) : xR p l e R s m args below meth c Z D cA A nL mb pc ls st h bg := by
  obtain ⟨ci, hd, hr, hw⟩ := row_step (ai := .iastore) hrow
  simp only [xB] at hxb
  split at hxb
  · split at hxb
    · rename_i hh
      intro hbg H locs la hR hS hl
      obtain ⟨rfl, rfl⟩ := rel_simple hr
      obtain ⟨dom, hd1, hP, hD⟩ := id hR
      obtain ⟨i9, hi⟩ := xRel.at (D := D) (cA := cA) (A := A) (H := H) hd1 hh
      exact va_iast hx hb hK hP hD hS i9 0 (by rw [cwK_at hi, hh]; rfl) (tysK_at cA (by decide)) hxb.1 hd (fun H1 locs1 hP1 hD1 hS1 => ih _ _ _ _ _ hw hxb.2 hbg H1 locs1 la (xRel.put hd1 hh ((cwK_set hD hi _) ▸ hP1) ((cwK_set hD hi _) ▸ hD1)) hS1 hl)
    · exact hxb.elim
  · exact hxb.elim
theorem s_lastore (hx : p.tables.exec = Jvm.exec) (hb : c.code = cc) (hts : ∀ w ∈ WG, w.before args s = true) (hown : s.vm.findClass (oR own) = some m.cls) (hK : va_K D vwCl (tysK cA) s)  (ih : ∀ (pc : Nat) (ls : ac_L) (st : List Value) (h : ac_H) (bg : Nat × Nat), rowOK own isI tr nL sp cc pc is = true → xB call cs ga L xs sl mb hands rt Q J is ls st h bg → xR p l e R s m args below meth c Z D cA A nL mb pc ls st h bg) (hrow : rowOK own isI tr nL sp cc pc ((.lastore, n) :: is) = true) (hxb : xB call cs ga L xs sl mb hands rt Q J ((.lastore, n) :: is) ls st h bg) : xR p l e R s m args below meth c Z D cA A nL mb pc ls st h bg := by
  obtain ⟨ci, hd, hr, hw⟩ := row_step (ai := .lastore) hrow
  simp only [xB] at hxb
  split at hxb
  · split at hxb
    · rename_i hh
      intro hbg H locs la hR hS hl
      obtain ⟨rfl, rfl⟩ := rel_simple hr
      obtain ⟨dom, hd1, hP, hD⟩ := id hR
      obtain ⟨i9, hi⟩ := xRel.at (D := D) (cA := cA) (A := A) (H := H) hd1 hh
      exact va_last hx hb hK hP hD hS i9 1 (by rw [cwK_at hi, hh]; rfl) (tysK_at cA (by decide)) hxb.1 hd (fun H1 locs1 hP1 hD1 hS1 => ih _ _ _ _ _ hw hxb.2 hbg H1 locs1 la (xRel.put hd1 hh ((cwK_set hD hi _) ▸ hP1) ((cwK_set hD hi _) ▸ hD1)) hS1 hl)
    · exact hxb.elim
  · exact hxb.elim
theorem s_bastore (hx : p.tables.exec = Jvm.exec) (hb : c.code = cc) (hts : ∀ w ∈ WG, w.before args s = true) (hown : s.vm.findClass (oR own) = some m.cls) (hK : va_K D vwCl (tysK cA) s)  (ih : ∀ (pc : Nat) (ls : ac_L) (st : List Value) (h : ac_H) (bg : Nat × Nat), rowOK own isI tr nL sp cc pc is = true → xB call cs ga L xs sl mb hands rt Q J is ls st h bg → xR p l e R s m args below meth c Z D cA A nL mb pc ls st h bg) (hrow : rowOK own isI tr nL sp cc pc ((.bastore, n) :: is) = true) (hxb : xB call cs ga L xs sl mb hands rt Q J ((.bastore, n) :: is) ls st h bg) : xR p l e R s m args below meth c Z D cA A nL mb pc ls st h bg := by
  obtain ⟨ci, hd, hr, hw⟩ := row_step (ai := .bastore) hrow
  simp only [xB] at hxb
  split at hxb
  · split at hxb
    · rename_i hh
      intro hbg H locs la hR hS hl
      obtain ⟨rfl, rfl⟩ := rel_simple hr
      obtain ⟨dom, hd1, hP, hD⟩ := id hR
      obtain ⟨i9, hi⟩ := xRel.at (D := D) (cA := cA) (A := A) (H := H) hd1 hh
      exact va_zast hx hb hK hP hD hS i9 2 (by rw [cwK_at hi, hh]; rfl) (tysK_at cA (by decide)) hxb.1 hd (fun H1 locs1 hP1 hD1 hS1 => ih _ _ _ _ _ hw hxb.2 hbg H1 locs1 la (xRel.put hd1 hh ((cwK_set hD hi _) ▸ hP1) ((cwK_set hD hi _) ▸ hD1)) hS1 hl)
    · rename_i hh
      intro hbg H locs la hR hS hl
      obtain ⟨rfl, rfl⟩ := rel_simple hr
      obtain ⟨dom, hd1, hP, hD⟩ := id hR
      obtain ⟨i9, hi⟩ := xRel.at (D := D) (cA := cA) (A := A) (H := H) hd1 hh
      exact va_bast hx hb hK hP hD hS i9 3 (by rw [cwK_at hi, hh]; rfl) (tysK_at cA (by decide)) hxb.1 hd (fun H1 locs1 hP1 hD1 hS1 => ih _ _ _ _ _ hw hxb.2 hbg H1 locs1 la (xRel.put hd1 hh ((cwK_set hD hi _) ▸ hP1) ((cwK_set hD hi _) ▸ hD1)) hS1 hl)
    · exact hxb.elim
  · exact hxb.elim
theorem s_aaload (hx : p.tables.exec = Jvm.exec) (hb : c.code = cc) (hts : ∀ w ∈ WG, w.before args s = true) (hown : s.vm.findClass (oR own) = some m.cls) (hK : va_K D vwCl (tysK cA) s)  (ih : ∀ (pc : Nat) (ls : ac_L) (st : List Value) (h : ac_H) (bg : Nat × Nat), rowOK own isI tr nL sp cc pc is = true → xB call cs ga L xs sl mb hands rt Q J is ls st h bg → xR p l e R s m args below meth c Z D cA A nL mb pc ls st h bg) (hrow : rowOK own isI tr nL sp cc pc ((.aaload, n) :: is) = true) (hxb : xB call cs ga L xs sl mb hands rt Q J ((.aaload, n) :: is) ls st h bg) : xR p l e R s m args below meth c Z D cA A nL mb pc ls st h bg := by
  obtain ⟨ci, hd, hr, hw⟩ := row_step (ai := .aaload) hrow
  simp only [xB] at hxb
  split at hxb
  · rename_i i0 a0 s0
    split at hxb
    · rename_i t n f hh
      obtain ⟨⟨ht1, ht2⟩, hin, hxb⟩ := hxb
      split at hxb
      · rename_i q hq
        intro hbg H locs la hR hS hl
        have hr := rel_simple hr
        obtain ⟨rfl, rfl⟩ := hr
        obtain ⟨dom, hd1, hP, hD⟩ := id hR
        obtain ⟨i9, hi⟩ := xRel.at (D := D) (cA := cA) (A := A) (H := H) hd1 hh
        have hat : (cwK cA h dom)[i9]? = some (a0, .inl (cA t, n, .inr (.inr (.inr (.inr f))))) := by rw [cwK_at hi, hh]; rfl
        have hlt : i0.toNatClampNeg < n := Nat.not_le.mp fun q => hin (Or.inr q)
        have hre : (aty t).isReference = true := by
          match t, ht1, ht2 with
          | 4, _, _ => rfl
          | 5, _, _ => rfl
          | 6, _, _ => rfl
          | t + 7, _, h => omega
        refine W.aald (v := .ref q) (ty := aty t) hx hb (hP i9 _ hat) ((hK.2 t _ (tysK_at cA ht2)).1 n (fun j => va_rf (f j))) hre (fun q => by cases q) (by show ¬ (i0 < 0 ∨ (arrV _ _ _).slots.size ≤ _); rw [arrV_size]; exact hin) (by show (arrV _ _ _).slots[_]? = _; rw [arrV_read _ _ hlt, hq]; rfl) rfl rfl hd (ih _ _ _ _ _ hw hxb hbg H locs la hR hS hl)
      · exact hxb.elim
    · exact hxb.elim
  · exact hxb.elim
theorem s_arraylength (hx : p.tables.exec = Jvm.exec) (hb : c.code = cc) (hts : ∀ w ∈ WG, w.before args s = true) (hown : s.vm.findClass (oR own) = some m.cls) (hK : va_K D vwCl (tysK cA) s)  (ih : ∀ (pc : Nat) (ls : ac_L) (st : List Value) (h : ac_H) (bg : Nat × Nat), rowOK own isI tr nL sp cc pc is = true → xB call cs ga L xs sl mb hands rt Q J is ls st h bg → xR p l e R s m args below meth c Z D cA A nL mb pc ls st h bg) (hrow : rowOK own isI tr nL sp cc pc ((.arraylength, n) :: is) = true) (hxb : xB call cs ga L xs sl mb hands rt Q J ((.arraylength, n) :: is) ls st h bg) : xR p l e R s m args below meth c Z D cA A nL mb pc ls st h bg := by
  obtain ⟨ci, hd, hr, hw⟩ := row_step (ai := .arraylength) hrow
  simp only [xB] at hxb
  split at hxb
  · split at hxb
    · rename_i t x hh
      intro hbg H locs la hR hS hl
      have hr := rel_simple hr
      obtain ⟨rfl, rfl⟩ := hr
      obtain ⟨dom, hd1, hP, hD⟩ := id hR
      obtain ⟨i9, hi⟩ := xRel.at (D := D) (cA := cA) (A := A) (H := H) hd1 hh
      exact va_alen hx hb hK hP i9 t (cA := cA t) (x := x) (by rw [cwK_at hi, hh]; rfl) (tysK_at cA hxb.1) rfl hd (ih _ _ _ _ _ hw hxb.2 hbg H locs la hR hS hl)
    · exact hxb.elim
  · exact hxb.elim
theorem s_aastore (hx : p.tables.exec = Jvm.exec) (hb : c.code = cc) (hts : ∀ w ∈ WG, w.before args s = true) (hown : s.vm.findClass (oR own) = some m.cls) (hK : va_K D vwCl (tysK cA) s)  (ih : ∀ (pc : Nat) (ls : ac_L) (st : List Value) (h : ac_H) (bg : Nat × Nat), rowOK own isI tr nL sp cc pc is = true → xB call cs ga L xs sl mb hands rt Q J is ls st h bg → xR p l e R s m args below meth c Z D cA A nL mb pc ls st h bg) (hrow : rowOK own isI tr nL sp cc pc ((.aastore, n) :: is) = true) (hxb : xB call cs ga L xs sl mb hands rt Q J ((.aastore, n) :: is) ls st h bg) : xR p l e R s m args below meth c Z D cA A nL mb pc ls st h bg := by
  obtain ⟨ci, hd, hr, hw⟩ := row_step (ai := .aastore) hrow
  simp only [xB] at hxb
  split at hxb
  · rename_i v i a s1
    split at hxb
    · rename_i t n9 f hh
      obtain ⟨ht, hin, hxb⟩ := hxb
      intro hbg H locs la hR hS hl
      have hr := rel_simple hr
      obtain ⟨rfl, rfl⟩ := hr
      obtain ⟨dom, hd1, hP, hD⟩ := id hR
      obtain ⟨i9, hi⟩ := xRel.at (D := D) (cA := cA) (A := A) (H := H) hd1 hh
      rcases ht with ⟨rfl, fs, hv⟩ | ⟨rfl, fs, hv⟩
      · obtain ⟨j9, hj⟩ := xRel.at (D := D) (cA := cA) (A := A) (H := H) hd1 hv
        exact va_astq hx hb hK hP hD hS i9 5 j9 3 (r := (RX3, TX3, 4)) (by rw [cwK_at hi, hh]; rfl) (tysK_at cA (by decide)) (by rw [cwK_at hj, hv]; rfl) rfl hin hd (fun H1 locs1 hP1 hD1 hS1 => ih _ _ _ _ _ hw hxb hbg H1 locs1 la (xRel.put hd1 hh ((cwK_set hD hi (.inl (5, n9, .inr (.inr (.inr (.inr _)))))) ▸ hP1) ((cwK_set hD hi (.inl (5, n9, .inr (.inr (.inr (.inr _)))))) ▸ hD1)) hS1 hl)
      · obtain ⟨j9, hj⟩ := xRel.at (D := D) (cA := cA) (A := A) (H := H) hd1 hv
        exact va_astq hx hb hK hP hD hS i9 6 j9 0 (r := (RX0, TX0, 14)) (by rw [cwK_at hi, hh]; rfl) (tysK_at cA (by decide)) (by rw [cwK_at hj, hv]; rfl) rfl hin hd (fun H1 locs1 hP1 hD1 hS1 => ih _ _ _ _ _ hw hxb hbg H1 locs1 la (xRel.put hd1 hh ((cwK_set hD hi (.inl (6, n9, .inr (.inr (.inr (.inr _)))))) ▸ hP1) ((cwK_set hD hi (.inl (6, n9, .inr (.inr (.inr (.inr _)))))) ▸ hD1)) hS1 hl)
    · exact hxb.elim
  · exact hxb.elim
theorem s_sipush (hx : p.tables.exec = Jvm.exec) (hb : c.code = cc) (hts : ∀ w ∈ WG, w.before args s = true) (hown : s.vm.findClass (oR own) = some m.cls) (hK : va_K D vwCl (tysK cA) s) {k : Int} (ih : ∀ (pc : Nat) (ls : ac_L) (st : List Value) (h : ac_H) (bg : Nat × Nat), rowOK own isI tr nL sp cc pc is = true → xB call cs ga L xs sl mb hands rt Q J is ls st h bg → xR p l e R s m args below meth c Z D cA A nL mb pc ls st h bg) (hrow : rowOK own isI tr nL sp cc pc ((.sipush k, n) :: is) = true) (hxb : xB call cs ga L xs sl mb hands rt Q J ((.sipush k, n) :: is) ls st h bg) : xR p l e R s m args below meth c Z D cA A nL mb pc ls st h bg := by
  obtain ⟨ci, hd, hr, hw⟩ := row_step (ai := .sipush k) hrow
  simp only [xB] at hxb
  intro hbg H locs la hR hS hl
  simp only [rel] at hr
  split at hr
  · simp only [Bool.and_eq_true, beq_iff_eq] at hr
    obtain ⟨rfl, rfl⟩ := hr
    exact lv_iconst hx hb hd rfl (ih _ _ _ _ _ hw hxb hbg H locs la hR hS hl)
  · simp only [Bool.and_eq_true, beq_iff_eq, decide_eq_true_eq] at hr
    obtain ⟨⟨rfl, rfl⟩, hv⟩ := hr
    exact lv_bipush hx hb hd hv (ih _ _ _ _ _ hw hxb hbg H locs la hR hS hl)
  · simp only [Bool.and_eq_true, beq_iff_eq, decide_eq_true_eq] at hr
    obtain ⟨⟨rfl, rfl⟩, hv⟩ := hr
    exact lv_sipush hx hb hd hv (ih _ _ _ _ _ hw hxb hbg H locs la hR hS hl)
  · simp only [Bool.and_eq_true, beq_iff_eq, List.any_eq_true] at hr
    obtain ⟨rfl, q, hq, ⟨⟨rfl, rfl⟩, rfl⟩⟩ := hr
    exact lv_ldc hx hb hown (wg hts (con_ok q hq) rfl) hd (ih _ _ _ _ _ hw hxb hbg H locs la hR hS hl)
  · simp only [Bool.and_eq_true, beq_iff_eq, List.any_eq_true] at hr
    obtain ⟨rfl, q, hq, ⟨⟨rfl, rfl⟩, rfl⟩⟩ := hr
    exact lv_ldcw hx hb hown (wg hts (con_ok q hq) rfl) hd (ih _ _ _ _ _ hw hxb hbg H locs la hR hS hl)
  · cases hr
theorem s_ldc2_w (hx : p.tables.exec = Jvm.exec) (hb : c.code = cc) (hts : ∀ w ∈ WG, w.before args s = true) (hown : s.vm.findClass (oR own) = some m.cls) (hK : va_K D vwCl (tysK cA) s) {k : Nat} (ih : ∀ (pc : Nat) (ls : ac_L) (st : List Value) (h : ac_H) (bg : Nat × Nat), rowOK own isI tr nL sp cc pc is = true → xB call cs ga L xs sl mb hands rt Q J is ls st h bg → xR p l e R s m args below meth c Z D cA A nL mb pc ls st h bg) (hrow : rowOK own isI tr nL sp cc pc ((.ldc2_w k, n) :: is) = true) (hxb : xB call cs ga L xs sl mb hands rt Q J ((.ldc2_w k, n) :: is) ls st h bg) : xR p l e R s m args below meth c Z D cA A nL mb pc ls st h bg := by
  obtain ⟨ci, hd, hr, hw⟩ := row_step (ai := .ldc2_w k) hrow
  simp only [xB] at hxb
  intro hbg H locs la hR hS hl
  simp only [rel] at hr
  split at hr
  · simp only [Bool.and_eq_true, beq_iff_eq] at hr
    obtain ⟨rfl, rfl⟩ := hr
    exact lv_lconst hx hb hd rfl (ih _ _ _ _ _ hw hxb hbg H locs la hR hS hl)
  · simp only [Bool.and_eq_true, beq_iff_eq, List.any_eq_true] at hr
    obtain ⟨rfl, q, hq, ⟨⟨rfl, rfl⟩, rfl⟩⟩ := hr
    exact lv_ldc2 hx hb hown (wg hts (conL_ok q hq) rfl) hd (ih _ _ _ _ _ hw hxb hbg H locs la hR hS hl)
  · cases hr
end SNH
end
section
/-! ===== steps: constants of the old heap, making, returns, switches ===== -/
theorem RA_one {s : State} {a b : ClassId} {ty : FieldType} (h1 : va_RA s a ty) (h2 : va_RA s b ty) : a = b := by
  cases ty with
  | object C =>
    obtain ⟨_, _, -, -, -, h1⟩ := h1
    obtain ⟨_, _, -, -, -, h2⟩ := h2
    exact Option.some.inj (h1.symm.trans h2)
  | _ => exact Option.some.inj (Eq.trans (Eq.symm h1) h2)
theorem K_last {D : va_G} {cA : Nat → ClassId} {s : State} {c : ClassId} {t : Nat} (ht : t < 7) (hK : va_K D vwCl (tysK cA) s) (h : va_K D vwCl (tysK cA ++ [(c, aty t)]) s) : c = cA t := by
  have hl : (tysK cA).length = 7 := by unfold tysK; simp
  have h1 := (h.2 7 (c, aty t) (by rw [List.getElem?_append_right (by omega), hl]; rfl)).2
  exact RA_one h1 (hK.2 t _ (tysK_at cA ht)).2
def retOK (rt : Option FieldType) (ri : Instr) (v : Option Value) : Prop := (ri = .ireturn ∧ ∃ x, v = some (.int x) ∧ nrw rt x) ∨ (ri = .lreturn ∧ ∃ x, v = some (.long x) ∧ rt = some .long) ∨ (ri = .areturn ∧ ∃ a, v = some (.ref a) ∧ isR rt) ∨ (ri = .return_ ∧ v = none ∧ rt = none)
theorem dflt_at {k j : Nat} (hj : j < nfl.getD k 0) : vp_V (dflt k) j = defaultValue (fty (32 * k + j)) := by
  unfold vp_V dflt
  rw [List.getD_eq_getElem?_getD, List.getElem?_map, List.getElem?_range hj]
  rfl
section SNM
variable {p : Program} {l : Launch} {e : Env} {R : Room} {s : State} {m : MethodId} {args : Array Value} {below : List Frame} {meth : Method} {c : Code} {Z : State → Prop} {D : va_G} {cA : Nat → ClassId} {A : Nat → Prop}
variable {cc : ByteArray} {own : Nat} {isI : Bool} {tr : Nat} {nL : Nat} {sp : List Nat}
variable {call : Nat → List Value → ac_H → ac_P → Prop} {cs : Nat → Nat × Nat} {ga : Nat → Nat} {L : Nat} {xs : Nat → Int32} {sl : Nat → List Int32} {mb : Nat × Nat} {hands : List (Nat × Int)} {rt : Option FieldType} {Q : ac_P} {J : Nat → ac_X}
variable {is : ac_I} {ls : ac_L} {st : List Value} {h : ac_H} {bg : Nat × Nat} {pc n : Nat}

theorem s_faload (hx : p.tables.exec = Jvm.exec) (hb : c.code = cc) (hts : ∀ w ∈ WG, w.before args s = true) (hown : s.vm.findClass (oR own) = some m.cls) (hK : va_K D vwCl (tysK cA) s) (hX : va_X (ga 0) L xs s s.heap) (hbl : ga 0 < s.heap.size) (hbA : ¬ A (ga 0)) (ih : ∀ (pc : Nat) (ls : ac_L) (st : List Value) (h : ac_H) (bg : Nat × Nat), rowOK own isI tr nL sp cc pc is = true → xB call cs ga L xs sl mb hands rt Q J is ls st h bg → xR p l e R s m args below meth c Z D cA A nL mb pc ls st h bg) (hrow : rowOK own isI tr nL sp cc pc ((.faload, n) :: is) = true) (hxb : xB call cs ga L xs sl mb hands rt Q J ((.faload, n) :: is) ls st h bg) : xR p l e R s m args below meth c Z D cA A nL mb pc ls st h bg := by
  obtain ⟨ci, hd, hr, hw⟩ := row_step (ai := .faload) hrow
  simp only [xB] at hxb
  split at hxb
  · obtain ⟨rfl, hin, hxb⟩ := hxb
    intro hbg H locs la hR hS hl
    simp only [rel] at hr
    split at hr
    · rw [beq_iff_eq] at hr
      subst hr
      exact va_sld hx hb hX hbl hbA hS hin hd (ih _ _ _ _ _ hw hxb hbg H locs la hR hS hl)
    · cases hr
  · exact hxb.elim
theorem s_caload (hx : p.tables.exec = Jvm.exec) (hb : c.code = cc) (hts : ∀ w ∈ WG, w.before args s = true) (hown : s.vm.findClass (oR own) = some m.cls) (hK : va_K D vwCl (tysK cA) s) (hX : va_X (ga 0) L xs s s.heap) (hbl : ga 0 < s.heap.size) (hbA : ¬ A (ga 0)) (ih : ∀ (pc : Nat) (ls : ac_L) (st : List Value) (h : ac_H) (bg : Nat × Nat), rowOK own isI tr nL sp cc pc is = true → xB call cs ga L xs sl mb hands rt Q J is ls st h bg → xR p l e R s m args below meth c Z D cA A nL mb pc ls st h bg) (hrow : rowOK own isI tr nL sp cc pc ((.caload, n) :: is) = true) (hxb : xB call cs ga L xs sl mb hands rt Q J ((.caload, n) :: is) ls st h bg) : xR p l e R s m args below meth c Z D cA A nL mb pc ls st h bg := by
  obtain ⟨ci, hd, hr, hw⟩ := row_step (ai := .caload) hrow
  simp only [xB] at hxb
  split at hxb
  · obtain ⟨rfl, hxb⟩ := hxb
    intro hbg H locs la hR hS hl
    simp only [rel] at hr
    split at hr
    · rw [beq_iff_eq] at hr
      subst hr
      exact va_slen hx hb hX hbl hbA hS hd (ih _ _ _ _ _ hw hxb hbg H locs la hR hS hl)
    · cases hr
  · exact hxb.elim
theorem s_daload (hx : p.tables.exec = Jvm.exec) (hb : c.code = cc) (hts : ∀ w ∈ WG, w.before args s = true) (hown : s.vm.findClass (oR own) = some m.cls) (hK : va_K D vwCl (tysK cA) s) (hT : va_T .int (ga 1) 11 (fun j => .int (leastN.getD j 0)) A s s.heap) (ih : ∀ (pc : Nat) (ls : ac_L) (st : List Value) (h : ac_H) (bg : Nat × Nat), rowOK own isI tr nL sp cc pc is = true → xB call cs ga L xs sl mb hands rt Q J is ls st h bg → xR p l e R s m args below meth c Z D cA A nL mb pc ls st h bg) (hrow : rowOK own isI tr nL sp cc pc ((.daload, n) :: is) = true) (hxb : xB call cs ga L xs sl mb hands rt Q J ((.daload, n) :: is) ls st h bg) : xR p l e R s m args below meth c Z D cA A nL mb pc ls st h bg := by
  obtain ⟨ci, hd, hr, hw⟩ := row_step (ai := .daload) hrow
  simp only [xB] at hxb
  split at hxb
  · obtain ⟨rfl, hin, hxb⟩ := hxb
    intro hbg H locs la hR hS hl
    simp only [rel] at hr
    split at hr
    · rw [beq_iff_eq] at hr
      subst hr
      exact va_ti hx hb hT hS hin rfl hd (ih _ _ _ _ _ hw hxb hbg H locs la hR hS hl)
    · cases hr
  · exact hxb.elim
theorem s_saload (hx : p.tables.exec = Jvm.exec) (hb : c.code = cc) (hts : ∀ w ∈ WG, w.before args s = true) (hown : s.vm.findClass (oR own) = some m.cls) (hK : va_K D vwCl (tysK cA) s) (hT : va_T .int (ga 2) 11 (fun j => .int (mostN.getD j 0)) A s s.heap) (ih : ∀ (pc : Nat) (ls : ac_L) (st : List Value) (h : ac_H) (bg : Nat × Nat), rowOK own isI tr nL sp cc pc is = true → xB call cs ga L xs sl mb hands rt Q J is ls st h bg → xR p l e R s m args below meth c Z D cA A nL mb pc ls st h bg) (hrow : rowOK own isI tr nL sp cc pc ((.saload, n) :: is) = true) (hxb : xB call cs ga L xs sl mb hands rt Q J ((.saload, n) :: is) ls st h bg) : xR p l e R s m args below meth c Z D cA A nL mb pc ls st h bg := by
  obtain ⟨ci, hd, hr, hw⟩ := row_step (ai := .saload) hrow
  simp only [xB] at hxb
  split at hxb
  · obtain ⟨rfl, hin, hxb⟩ := hxb
    intro hbg H locs la hR hS hl
    simp only [rel] at hr
    split at hr
    · rw [beq_iff_eq] at hr
      subst hr
      exact va_ti hx hb hT hS hin rfl hd (ih _ _ _ _ _ hw hxb hbg H locs la hR hS hl)
    · cases hr
  · exact hxb.elim
theorem s_getstatic (hx : p.tables.exec = Jvm.exec) (hb : c.code = cc) (hts : ∀ w ∈ WG, w.before args s = true) (hown : s.vm.findClass (oR own) = some m.cls) (hK : va_K D vwCl (tysK cA) s) {k : Nat} (hZ : ∀ k, k < 2 → va_Z RX6 (["LEAST_N", "MOST_N"].getD k "") "[I" (.ref (ga (1 + k))) A s s.heap) (hN : ∀ q ∈ statN, q.2.1 < 2 ∧ va_Nw (.fieldLinkNest (oR q.1) q.2.2 RX6 (["LEAST_N", "MOST_N"].getD q.2.1 "") "[I" RX6) s) (ih : ∀ (pc : Nat) (ls : ac_L) (st : List Value) (h : ac_H) (bg : Nat × Nat), rowOK own isI tr nL sp cc pc is = true → xB call cs ga L xs sl mb hands rt Q J is ls st h bg → xR p l e R s m args below meth c Z D cA A nL mb pc ls st h bg) (hrow : rowOK own isI tr nL sp cc pc ((.getstatic k, n) :: is) = true) (hxb : xB call cs ga L xs sl mb hands rt Q J ((.getstatic k, n) :: is) ls st h bg) : xR p l e R s m args below meth c Z D cA A nL mb pc ls st h bg := by
  obtain ⟨ci, hd, hr, hw⟩ := row_step (ai := .getstatic k) hrow
  simp only [xB] at hxb
  intro hbg H locs la hR hS hl
  simp only [rel] at hr
  split at hr
  · rw [Bool.and_eq_true, beq_iff_eq, Bool.or_eq_true] at hr
    obtain ⟨rfl, hr | hr⟩ := hr
    · obtain ⟨i9, hq⟩ := any3 hr
      have hf := stat_ok _ hq
      exact va_gets hx hb (hZ _ hf.1) hS hown (wg hts hf.2 rfl) (fun _ h => h) hd (ih _ _ _ _ _ hw hxb hbg H locs la hR hS hl)
    · obtain ⟨q, hq, h1⟩ := List.any_eq_true.mp hr
      simp only [Bool.and_eq_true, beq_iff_eq] at h1
      obtain ⟨⟨rfl, rfl⟩, rfl⟩ := h1
      have hf := hN _ hq
      exact va_getsN hx hb (hZ _ hf.1) hS hown (va_Nw.use rfl hf.2) (fun _ h => h) hd (ih _ _ _ _ _ hw hxb hbg H locs la hR hS hl)
  · cases hr
theorem s_ldc (hx : p.tables.exec = Jvm.exec) (hb : c.code = cc) (hts : ∀ w ∈ WG, w.before args s = true) (hown : s.vm.findClass (oR own) = some m.cls) (hK : va_K D vwCl (tysK cA) s) {k : Nat} {tx : Nat → String} (hStr : ∀ q ∈ strTab, vk_R (oR q.1) q.2.1 (tx q.2.2) (ga (3 + q.2.2)) s) (ih : ∀ (pc : Nat) (ls : ac_L) (st : List Value) (h : ac_H) (bg : Nat × Nat), rowOK own isI tr nL sp cc pc is = true → xB call cs ga L xs sl mb hands rt Q J is ls st h bg → xR p l e R s m args below meth c Z D cA A nL mb pc ls st h bg) (hrow : rowOK own isI tr nL sp cc pc ((.ldc k, n) :: is) = true) (hxb : xB call cs ga L xs sl mb hands rt Q J ((.ldc k, n) :: is) ls st h bg) : xR p l e R s m args below meth c Z D cA A nL mb pc ls st h bg := by
  obtain ⟨ci, hd, hr, hw⟩ := row_step (ai := .ldc k) hrow
  simp only [xB] at hxb
  intro hbg H locs la hR hS hl
  simp only [rel] at hr
  split at hr
  · rw [Bool.and_eq_true, beq_iff_eq] at hr
    obtain ⟨rfl, hr⟩ := hr
    obtain ⟨q, hq, h1⟩ := List.any_eq_true.mp hr
    simp only [Bool.and_eq_true, beq_iff_eq] at h1
    obtain ⟨⟨rfl, rfl⟩, rfl⟩ := h1
    exact va_ldcS hx hb hown (hStr _ hq) hd (ih _ _ _ _ _ hw hxb hbg H locs la hR hS hl)
  · cases hr
theorem s_new (hx : p.tables.exec = Jvm.exec) (hb : c.code = cc) (hts : ∀ w ∈ WG, w.before args s = true) (hown : s.vm.findClass (oR own) = some m.cls) (hK : va_K D vwCl (tysK cA) s) {k : Nat} (hRC : mb.1 ≤ R.cells ∧ mb.2 ≤ R.slots) (hA : ∀ q, s.heap.size ≤ q → A q) (ih : ∀ (pc : Nat) (ls : ac_L) (st : List Value) (h : ac_H) (bg : Nat × Nat), rowOK own isI tr nL sp cc pc is = true → xB call cs ga L xs sl mb hands rt Q J is ls st h bg → xR p l e R s m args below meth c Z D cA A nL mb pc ls st h bg) (hrow : rowOK own isI tr nL sp cc pc ((.new k, n) :: is) = true) (hxb : xB call cs ga L xs sl mb hands rt Q J ((.new k, n) :: is) ls st h bg) : xR p l e R s m args below meth c Z D cA A nL mb pc ls st h bg := by
  obtain ⟨ci, hd, hr, hw⟩ := row_step (ai := .new k) hrow
  simp only [xB] at hxb
  obtain ⟨hbb, hxb⟩ := hxb
  intro hbg H locs la hR hS hl
  simp only [rel] at hr
  split at hr
  · rw [Bool.and_eq_true, beq_iff_eq] at hr
    obtain ⟨rfl, hr⟩ := hr
    obtain ⟨i9, hq⟩ := any3 hr
    obtain ⟨hk8, hf⟩ := new_ok _ hq
    obtain ⟨dom, hd1, hP, hD⟩ := id hR
    obtain ⟨C, T, N, ty, c1, c2, c3, c4, c5, c6, c7, c8, c9, c10⟩ := clAll hk8
    subst c2
    have c3 : N = nfl.getD k 0 := c3
    subst c3
    exact va_new hx hb hts c4 ty c7 hown (wg hts hf rfl) (hts _ c9) (hts _ c10) hK hP hD hS hA c1 (fs := dflt k) (fun j hj => by rw [dflt_at hj, c6 j hj]) (Nat.le_trans hbb.1 hRC.1) (Nat.le_trans hbb.2 hRC.2) hd (fun q H1 hP1 hD1 hS1 => by
      obtain ⟨hn, hR1⟩ := xRel.push (c := .inr (k, dflt k)) hd1 rfl hP1 hD1
      exact ih _ _ _ _ _ hw (hxb q hn) hbb H1 locs la hR1 hS1 hl)
  · cases hr

theorem xRel_fresh {h : ac_H} {H : Heap} (hR : xRel D cA A h H) : ∃ q, h q = none := by
  obtain ⟨dom, hd1, hP, hD⟩ := hR
  refine ⟨H.size, ?_⟩
  cases e : h H.size with
  | none => rfl
  | some c =>
    obtain ⟨i, hi⟩ := xRel.at (D := D) (cA := cA) (A := A) (H := H) hd1 e
    exact absurd (hP i _ (cwK_at hi)).lt (Nat.lt_irrefl _)
theorem s_newarray (hx : p.tables.exec = Jvm.exec) (hb : c.code = cc) (hts : ∀ w ∈ WG, w.before args s = true) (hown : s.vm.findClass (oR own) = some m.cls) (hK : va_K D vwCl (tysK cA) s) {ty : ArrayType} (hRC : mb.1 ≤ R.cells ∧ mb.2 ≤ R.slots) (hA : ∀ q, s.heap.size ≤ q → A q) (ih : ∀ (pc : Nat) (ls : ac_L) (st : List Value) (h : ac_H) (bg : Nat × Nat), rowOK own isI tr nL sp cc pc is = true → xB call cs ga L xs sl mb hands rt Q J is ls st h bg → xR p l e R s m args below meth c Z D cA A nL mb pc ls st h bg) (hrow : rowOK own isI tr nL sp cc pc ((.newarray ty, n) :: is) = true) (hxb : xB call cs ga L xs sl mb hands rt Q J ((.newarray ty, n) :: is) ls st h bg) : xR p l e R s m args below meth c Z D cA A nL mb pc ls st h bg := by
  obtain ⟨ci, hd, hr, hw⟩ := row_step (ai := .newarray ty) hrow
  simp only [xB] at hxb
  split at hxb
  · rename_i n0 s1
    obtain ⟨hn0, hn1, hbb, hxb⟩ := hxb
    intro hbg H locs la hR hS hl
    simp only [rel] at hr
    split at hr
    · simp only [Bool.and_eq_true, beq_iff_eq, decide_eq_true_eq] at hr
      obtain ⟨rfl, rfl⟩ := hr
      obtain ⟨dom, hd1, hP, hD⟩ := id hR
      cases ty
      · refine va_newa (atype := .boolean) hx hb (hts _ arC_boolean) rfl hK hP hD hS hA (a0 := (n0.toNatClampNeg, .inl (fun _ => 0))) (fun _ => rfl) hn0 rfl (by show n0.toNatClampNeg * 1 ≤ 536870912; omega) (Nat.le_trans hbb.1 hRC.1) (Nat.le_trans hbb.2 hRC.2) hd (fun q c9 H1 hK1 hP1 hD1 hS1 => ?_)
        have e9 := K_last (t := 2) (by decide) hK hK1
        subst e9
        obtain ⟨hn, hR1⟩ := xRel.push (c := .inl (2, n0.toNatClampNeg, .inl (fun _ => 0))) hd1 rfl hP1 hD1
        exact ih _ _ _ _ _ hw (hxb q hn) hbb H1 locs la hR1 hS1 hl
      · obtain ⟨q, hq⟩ := xRel_fresh hR
        exact (hxb q hq).elim
      · obtain ⟨q, hq⟩ := xRel_fresh hR
        exact (hxb q hq).elim
      · obtain ⟨q, hq⟩ := xRel_fresh hR
        exact (hxb q hq).elim
      · refine va_newa (atype := .byte) hx hb (hts _ arC_byte) rfl hK hP hD hS hA (a0 := (n0.toNatClampNeg, .inl (fun _ => 0))) (fun _ => rfl) hn0 rfl (by show n0.toNatClampNeg * 1 ≤ 536870912; omega) (Nat.le_trans hbb.1 hRC.1) (Nat.le_trans hbb.2 hRC.2) hd (fun q c9 H1 hK1 hP1 hD1 hS1 => ?_)
        have e9 := K_last (t := 3) (by decide) hK hK1
        subst e9
        obtain ⟨hn, hR1⟩ := xRel.push (c := .inl (3, n0.toNatClampNeg, .inl (fun _ => 0))) hd1 rfl hP1 hD1
        exact ih _ _ _ _ _ hw (hxb q hn) hbb H1 locs la hR1 hS1 hl
      · obtain ⟨q, hq⟩ := xRel_fresh hR
        exact (hxb q hq).elim
      · refine va_newa (atype := .int) hx hb (hts _ arC_int) rfl hK hP hD hS hA (a0 := (n0.toNatClampNeg, .inl (fun _ => 0))) (fun _ => rfl) hn0 rfl (by show n0.toNatClampNeg * 4 ≤ 536870912; omega) (Nat.le_trans hbb.1 hRC.1) (Nat.le_trans hbb.2 hRC.2) hd (fun q c9 H1 hK1 hP1 hD1 hS1 => ?_)
        have e9 := K_last (t := 0) (by decide) hK hK1
        subst e9
        obtain ⟨hn, hR1⟩ := xRel.push (c := .inl (0, n0.toNatClampNeg, .inl (fun _ => 0))) hd1 rfl hP1 hD1
        exact ih _ _ _ _ _ hw (hxb q hn) hbb H1 locs la hR1 hS1 hl
      · refine va_newa (atype := .long) hx hb (hts _ arC_long) rfl hK hP hD hS hA (a0 := (n0.toNatClampNeg, .inr (.inl (fun _ => 0)))) (fun _ => rfl) hn0 rfl (by show n0.toNatClampNeg * 8 ≤ 536870912; omega) (Nat.le_trans hbb.1 hRC.1) (Nat.le_trans hbb.2 hRC.2) hd (fun q c9 H1 hK1 hP1 hD1 hS1 => ?_)
        have e9 := K_last (t := 1) (by decide) hK hK1
        subst e9
        obtain ⟨hn, hR1⟩ := xRel.push (c := .inl (1, n0.toNatClampNeg, .inr (.inl (fun _ => 0)))) hd1 rfl hP1 hD1
        exact ih _ _ _ _ _ hw (hxb q hn) hbb H1 locs la hR1 hS1 hl
    · cases hr
  · exact hxb.elim
theorem s_anewarray (hx : p.tables.exec = Jvm.exec) (hb : c.code = cc) (hts : ∀ w ∈ WG, w.before args s = true) (hown : s.vm.findClass (oR own) = some m.cls) (hK : va_K D vwCl (tysK cA) s) {t : Nat} (hO3 : va_AO RX3 s) (hO0 : va_AO RX0 s) (hRC : mb.1 ≤ R.cells ∧ mb.2 ≤ R.slots) (hA : ∀ q, s.heap.size ≤ q → A q) (ih : ∀ (pc : Nat) (ls : ac_L) (st : List Value) (h : ac_H) (bg : Nat × Nat), rowOK own isI tr nL sp cc pc is = true → xB call cs ga L xs sl mb hands rt Q J is ls st h bg → xR p l e R s m args below meth c Z D cA A nL mb pc ls st h bg) (hrow : rowOK own isI tr nL sp cc pc ((.anewarray t, n) :: is) = true) (hxb : xB call cs ga L xs sl mb hands rt Q J ((.anewarray t, n) :: is) ls st h bg) : xR p l e R s m args below meth c Z D cA A nL mb pc ls st h bg := by
  obtain ⟨ci, hd, hr, hw⟩ := row_step (ai := .anewarray t) hrow
  simp only [xB] at hxb
  split at hxb
  · rename_i n0 s1
    obtain ⟨ht, hn0, hn1, hbb, hxb⟩ := hxb
    intro hbg H locs la hR hS hl
    simp only [rel] at hr
    split at hr
    · rw [Bool.and_eq_true, beq_iff_eq] at hr
      obtain ⟨rfl, hr⟩ := hr
      obtain ⟨i9, hq⟩ := any3 hr
      have hf := ana_ok _ hq
      obtain ⟨dom, hd1, hP, hD⟩ := id hR
      rcases ht with rfl | rfl
      · refine va_newq (C := RX3) hx hb hown (wg hts hf rfl) hO3 hK hP hD hS hA hn0 rfl (by omega) (Nat.le_trans hbb.1 hRC.1) (Nat.le_trans hbb.2 hRC.2) hd (fun q c9 H1 hK1 hP1 hD1 hS1 => ?_)
        have e9 := K_last (t := 5) (by decide) hK hK1
        subst e9
        obtain ⟨hn, hR1⟩ := xRel.push (c := .inl (5, n0.toNatClampNeg, .inr (.inr (.inr (.inr (fun _ => none)))))) hd1 rfl hP1 hD1
        exact ih _ _ _ _ _ hw (hxb q hn) hbb H1 locs la hR1 hS1 hl
      · refine va_newq (C := RX0) hx hb hown (wg hts hf rfl) hO0 hK hP hD hS hA hn0 rfl (by omega) (Nat.le_trans hbb.1 hRC.1) (Nat.le_trans hbb.2 hRC.2) hd (fun q c9 H1 hK1 hP1 hD1 hS1 => ?_)
        have e9 := K_last (t := 6) (by decide) hK hK1
        subst e9
        obtain ⟨hn, hR1⟩ := xRel.push (c := .inl (6, n0.toNatClampNeg, .inr (.inr (.inr (.inr (fun _ => none)))))) hd1 rfl hP1 hD1
        exact ih _ _ _ _ _ hw (hxb q hn) hbb H1 locs la hR1 hS1 hl
    · cases hr
  · exact hxb.elim
theorem s_monitorexit (hx : p.tables.exec = Jvm.exec) (hb : c.code = cc) (hts : ∀ w ∈ WG, w.before args s = true) (hown : s.vm.findClass (oR own) = some m.cls) (hK : va_K D vwCl (tysK cA) s) (hRL : 100 ≤ R.locals) (hRF : 1 ≤ R.frames) (hml : c.maxLocals = nL) (ih : ∀ (pc : Nat) (ls : ac_L) (st : List Value) (h : ac_H) (bg : Nat × Nat), rowOK own isI tr nL sp cc pc is = true → xB call cs ga L xs sl mb hands rt Q J is ls st h bg → xR p l e R s m args below meth c Z D cA A nL mb pc ls st h bg) (hrow : rowOK own isI tr nL sp cc pc ((.monitorexit, n) :: is) = true) (hxb : xB call cs ga L xs sl mb hands rt Q J ((.monitorexit, n) :: is) ls st h bg) : xR p l e R s m args below meth c Z D cA A nL mb pc ls st h bg := by
  obtain ⟨ci, hd, hr, hw⟩ := row_step (ai := .monitorexit) hrow
  simp only [xB] at hxb
  split at hxb
  · rename_i a s1
    obtain ⟨hle, hxb⟩ := hxb
    intro hbg H locs la hR hS hl
    simp only [rel] at hr
    split at hr
    · rw [Bool.and_eq_true, beq_iff_eq] at hr
      obtain ⟨rfl, hr⟩ := hr
      obtain ⟨q, hq, h1⟩ := List.any_eq_true.mp hr
      simp only [Bool.and_eq_true, beq_iff_eq] at h1
      obtain ⟨rfl, rfl⟩ := h1
      have hcs := catsum s1
      exact W.objInit hx hb hown (wg hts (obj_ok _ hq) rfl) (hts _ objI) (hts _ objC) rfl (by rw [hml]; exact hl.1) rfl hd hRF (by show 2 * 0 + _ + 12 ≤ _; omega) (ih _ _ _ _ _ hw hxb hbg H locs la hR hS hl)
    · cases hr
  · exact hxb.elim
theorem s_monitorenter (hx : p.tables.exec = Jvm.exec) (hb : c.code = cc) (hts : ∀ w ∈ WG, w.before args s = true) (hown : s.vm.findClass (oR own) = some m.cls) (hK : va_K D vwCl (tysK cA) s) (hRL : 100 ≤ R.locals) (hRF : 1 ≤ R.frames) (hml : c.maxLocals = nL) (ih : ∀ (pc : Nat) (ls : ac_L) (st : List Value) (h : ac_H) (bg : Nat × Nat), rowOK own isI tr nL sp cc pc is = true → xB call cs ga L xs sl mb hands rt Q J is ls st h bg → xR p l e R s m args below meth c Z D cA A nL mb pc ls st h bg) (hrow : rowOK own isI tr nL sp cc pc ((.monitorenter, n) :: is) = true) (hxb : xB call cs ga L xs sl mb hands rt Q J ((.monitorenter, n) :: is) ls st h bg) : xR p l e R s m args below meth c Z D cA A nL mb pc ls st h bg := by
  obtain ⟨ci, hd, hr, hw⟩ := row_step (ai := .monitorenter) hrow
  simp only [xB] at hxb
  split at hxb
  · rename_i n0 dp b0 sp0 a0 s1
    split at hxb
    · rename_i n1 f1 n2 f2 hh1 hh2
      obtain ⟨hle, q1, q2, q3, q4, q5, hxb⟩ := hxb
      intro hbg H locs la hR hS hl
      simp only [rel] at hr
      split at hr
      · rw [Bool.and_eq_true, beq_iff_eq] at hr
        obtain ⟨rfl, hr⟩ := hr
        obtain ⟨q, hq, h1⟩ := List.any_eq_true.mp hr
        simp only [Bool.and_eq_true, beq_iff_eq] at h1
        obtain ⟨rfl, rfl⟩ := h1
        have hcs := catsum s1
        have hnf : nativeFrameWords "java/lang/System" "arraycopy" 5 ≤ 70 := by decide +kernel
        obtain ⟨dom, hd1, hP, hD⟩ := id hR
        obtain ⟨i1, hi1⟩ := xRel.at (D := D) (cA := cA) (A := A) (H := H) hd1 hh1
        obtain ⟨i2, hi2⟩ := xRel.at (D := D) (cA := cA) (A := A) (H := H) hd1 hh2
        exact va_copyi hx hb (by rw [hml]; exact hl.1.symm) hown (wg hts (cpy_ok _ hq) rfl) (hts _ cpyN) (hts _ cpyS) (hts _ cpyI) hK hP hD hS i1 i2 0 0 (by rw [cwK_at hi1, hh1]; rfl) (by rw [cwK_at hi2, hh2]; rfl) (tysK_at cA (by decide)) (tysK_at cA (by decide)) rfl q1 q2 q3 q4 q5 (fun _ _ => rfl) hRF (by omega) hd (fun H1 locs1 hP1 hD1 hS1 => ih _ _ _ _ _ hw hxb hbg H1 locs1 la (xRel.put hd1 hh2 ((cwK_set hD hi2 (.inl (0, n2, .inl _))) ▸ hP1) ((cwK_set hD hi2 (.inl (0, n2, .inl _))) ▸ hD1)) hS1 hl)
      · cases hr
    · exact hxb.elim
  · exact hxb.elim
theorem s_ireturn (hx : p.tables.exec = Jvm.exec) (hb : c.code = cc) (hts : ∀ w ∈ WG, w.before args s = true) (hown : s.vm.findClass (oR own) = some m.cls) (hK : va_K D vwCl (tysK cA) s) (hRet : ∀ (pc : Nat) (h : ac_H) (bg : Nat × Nat) (H : Heap) (locs : List Loc) (la : Array Slot) (v : Option Value) (ri : Instr), decode cc pc = .ok (ri, 1) → retOK rt ri v → Q (.inl v) h → xRel D cA A h H → va_S A s.heap H locs → bgle bg mb → W p l e R s m args below meth c H locs bg.1 bg.2 Z (F0 m pc la v.toList))  (hrow : rowOK own isI tr nL sp cc pc ((.ireturn, n) :: is) = true) (hxb : xB call cs ga L xs sl mb hands rt Q J ((.ireturn, n) :: is) ls st h bg) : xR p l e R s m args below meth c Z D cA A nL mb pc ls st h bg := by
  obtain ⟨ci, hd, hr, hw⟩ := row_step (ai := .ireturn) hrow
  simp only [xB] at hxb
  split at hxb
  · intro hbg H locs la hR hS hl
    obtain ⟨rfl, rfl⟩ := rel_simple hr
    exact hRet pc h bg H locs la (some (.int _)) _ hd (Or.inl ⟨rfl, _, rfl, hxb.1⟩) hxb.2 hR hS hbg
  · exact hxb.elim
theorem s_lreturn (hx : p.tables.exec = Jvm.exec) (hb : c.code = cc) (hts : ∀ w ∈ WG, w.before args s = true) (hown : s.vm.findClass (oR own) = some m.cls) (hK : va_K D vwCl (tysK cA) s) (hRet : ∀ (pc : Nat) (h : ac_H) (bg : Nat × Nat) (H : Heap) (locs : List Loc) (la : Array Slot) (v : Option Value) (ri : Instr), decode cc pc = .ok (ri, 1) → retOK rt ri v → Q (.inl v) h → xRel D cA A h H → va_S A s.heap H locs → bgle bg mb → W p l e R s m args below meth c H locs bg.1 bg.2 Z (F0 m pc la v.toList))  (hrow : rowOK own isI tr nL sp cc pc ((.lreturn, n) :: is) = true) (hxb : xB call cs ga L xs sl mb hands rt Q J ((.lreturn, n) :: is) ls st h bg) : xR p l e R s m args below meth c Z D cA A nL mb pc ls st h bg := by
  obtain ⟨ci, hd, hr, hw⟩ := row_step (ai := .lreturn) hrow
  simp only [xB] at hxb
  split at hxb
  · intro hbg H locs la hR hS hl
    obtain ⟨rfl, rfl⟩ := rel_simple hr
    exact hRet pc h bg H locs la (some (.long _)) _ hd (Or.inr (Or.inl ⟨rfl, _, rfl, hxb.1⟩)) hxb.2 hR hS hbg
  · exact hxb.elim
theorem s_areturn (hx : p.tables.exec = Jvm.exec) (hb : c.code = cc) (hts : ∀ w ∈ WG, w.before args s = true) (hown : s.vm.findClass (oR own) = some m.cls) (hK : va_K D vwCl (tysK cA) s) (hRet : ∀ (pc : Nat) (h : ac_H) (bg : Nat × Nat) (H : Heap) (locs : List Loc) (la : Array Slot) (v : Option Value) (ri : Instr), decode cc pc = .ok (ri, 1) → retOK rt ri v → Q (.inl v) h → xRel D cA A h H → va_S A s.heap H locs → bgle bg mb → W p l e R s m args below meth c H locs bg.1 bg.2 Z (F0 m pc la v.toList))  (hrow : rowOK own isI tr nL sp cc pc ((.areturn, n) :: is) = true) (hxb : xB call cs ga L xs sl mb hands rt Q J ((.areturn, n) :: is) ls st h bg) : xR p l e R s m args below meth c Z D cA A nL mb pc ls st h bg := by
  obtain ⟨ci, hd, hr, hw⟩ := row_step (ai := .areturn) hrow
  simp only [xB] at hxb
  split at hxb
  · intro hbg H locs la hR hS hl
    obtain ⟨rfl, rfl⟩ := rel_simple hr
    exact hRet pc h bg H locs la (some (.ref _)) _ hd (Or.inr (Or.inr (Or.inl ⟨rfl, _, rfl, hxb.1⟩))) hxb.2 hR hS hbg
  · exact hxb.elim
theorem s_return_ (hx : p.tables.exec = Jvm.exec) (hb : c.code = cc) (hts : ∀ w ∈ WG, w.before args s = true) (hown : s.vm.findClass (oR own) = some m.cls) (hK : va_K D vwCl (tysK cA) s) (hRet : ∀ (pc : Nat) (h : ac_H) (bg : Nat × Nat) (H : Heap) (locs : List Loc) (la : Array Slot) (v : Option Value) (ri : Instr), decode cc pc = .ok (ri, 1) → retOK rt ri v → Q (.inl v) h → xRel D cA A h H → va_S A s.heap H locs → bgle bg mb → W p l e R s m args below meth c H locs bg.1 bg.2 Z (F0 m pc la v.toList))  (hrow : rowOK own isI tr nL sp cc pc ((.return_, n) :: is) = true) (hxb : xB call cs ga L xs sl mb hands rt Q J ((.return_, n) :: is) ls st h bg) : xR p l e R s m args below meth c Z D cA A nL mb pc ls st h bg := by
  obtain ⟨ci, hd, hr, hw⟩ := row_step (ai := .return_) hrow
  simp only [xB] at hxb
  split at hxb
  · intro hbg H locs la hR hS hl
    obtain ⟨rfl, rfl⟩ := rel_simple hr
    exact hRet pc h bg H locs la (none) _ hd (Or.inr (Or.inr (Or.inr ⟨rfl, rfl, hxb.1⟩))) hxb.2 hR hS hbg
  · exact hxb.elim
theorem zip_at {α : Type} {P : α × α → Bool} : ∀ (a b : List α), (a.zip b).all P = true → ∀ (j : Nat) (x y : α), a[j]? = some x → b[j]? = some y → P (x, y) = true
  | [], _, _, j, x, y, h, _ => by simp at h
  | _ :: _, [], _, j, x, y, _, h => by simp at h
  | u :: a, v :: b, hz, 0, x, y, h1, h2 => by
    simp only [List.zip_cons_cons, List.all_cons, Bool.and_eq_true] at hz
    cases h1; cases h2
    exact hz.1
  | u :: a, v :: b, hz, j + 1, x, y, h1, h2 => by
    simp only [List.zip_cons_cons, List.all_cons, Bool.and_eq_true] at hz
    exact zip_at a b hz.2 j x y h1 h2
theorem s_tableswitch (hx : p.tables.exec = Jvm.exec) (hb : c.code = cc) (hts : ∀ w ∈ WG, w.before args s = true) (hown : s.vm.findClass (oR own) = some m.cls) (hK : va_K D vwCl (tysK cA) s) {d lo hi : Int} {os : Array Int} (hJ : ∀ (b t : Nat), sp[b]? = some t → ∀ ls st h bg, J b ls st h bg → xR p l e R s m args below meth c Z D cA A nL mb t ls st h bg)  (hrow : rowOK own isI tr nL sp cc pc ((.tableswitch d lo hi os, n) :: is) = true) (hxb : xB call cs ga L xs sl mb hands rt Q J ((.tableswitch d lo hi os, n) :: is) ls st h bg) : xR p l e R s m args below meth c Z D cA A nL mb pc ls st h bg := by
  obtain ⟨ci, hd, hr, hw⟩ := row_step (ai := .tableswitch d lo hi os) hrow
  simp only [xB] at hxb
  split at hxb
  · rename_i x s1
    split at hxb
    · rename_i b9 hb9
      intro hbg H locs la hR hS hl
      simp only [rel] at hr
      split at hr
      · rename_i d2 lo2 hi2 os2
        simp only [Bool.and_eq_true, beq_iff_eq] at hr
        obtain ⟨⟨⟨⟨rfl, rfl⟩, hjd⟩, hsz⟩, hz⟩ := hr
        unfold tsel at hb9
        split at hb9
        · rename_i hout
          cases hb9
          obtain ⟨t, ht, hto⟩ := jOK_at hjd
          exact lv_tableOut hx hb hd hout hto (hJ _ _ ht _ _ _ _ hxb hbg H locs la hR hS hl)
        · rename_i hin
          have h1 : ¬ x.toInt < lo := fun q => hin (Or.inl q)
          have h2 : ¬ hi < x.toInt := fun q => hin (Or.inr q)
          have hlt : (x.toInt - lo).toNat < os2.size := by
            rw [← hsz]
            exact (Array.getElem?_eq_some_iff.mp hb9).1
          have ho2 : os2[(x.toInt - lo).toNat]? = some os2[(x.toInt - lo).toNat] := Array.getElem?_eq_getElem hlt
          have hj := zip_at os.toList os2.toList hz _ _ _ (by rw [Array.getElem?_toList]; exact hb9) (by rw [Array.getElem?_toList]; exact ho2)
          obtain ⟨t, ht, hto⟩ := jOK_at hj
          exact lv_tableIn hx hb hd h1 h2 ho2 hto (hJ _ _ ht _ _ _ _ hxb hbg H locs la hR hS hl)
      · cases hr
    · exact hxb.elim
  · exact hxb.elim
theorem look_at {sp : List Nat} {pc : Nat} {d d2 : Int} (hd : jOK sp pc d d2 = true) (x : Int) : ∀ (a b : List (Int × Int)), a.length = b.length → (a.zip b).all (fun q => q.1.1 == q.2.1 && jOK sp pc q.1.2 q.2.2) = true → jOK sp pc (Op.lookupswitch.offset a d x) (Op.lookupswitch.offset b d2 x) = true
  | [], [], _, _ => hd
  | [], _ :: _, h, _ => by simp at h
  | _ :: _, [], h, _ => by simp at h
  | (u, v) :: a, (u2, v2) :: b, hl, hz => by
    simp only [List.zip_cons_cons, List.all_cons, Bool.and_eq_true, beq_iff_eq] at hz
    obtain ⟨⟨e, hv⟩, hz⟩ := hz
    subst e
    rw [Op.lookupswitch.offset_cons, Op.lookupswitch.offset_cons]
    split
    · exact hv
    · exact look_at hd x a b (by simpa using hl) hz
theorem s_lookupswitch (hx : p.tables.exec = Jvm.exec) (hb : c.code = cc) (hts : ∀ w ∈ WG, w.before args s = true) (hown : s.vm.findClass (oR own) = some m.cls) (hK : va_K D vwCl (tysK cA) s) {d : Int} {ps : Array (Int × Int)} (hJ : ∀ (b t : Nat), sp[b]? = some t → ∀ ls st h bg, J b ls st h bg → xR p l e R s m args below meth c Z D cA A nL mb t ls st h bg)  (hrow : rowOK own isI tr nL sp cc pc ((.lookupswitch d ps, n) :: is) = true) (hxb : xB call cs ga L xs sl mb hands rt Q J ((.lookupswitch d ps, n) :: is) ls st h bg) : xR p l e R s m args below meth c Z D cA A nL mb pc ls st h bg := by
  obtain ⟨ci, hd, hr, hw⟩ := row_step (ai := .lookupswitch d ps) hrow
  simp only [xB] at hxb
  split at hxb
  · rename_i x s1
    intro hbg H locs la hR hS hl
    simp only [rel] at hr
    split at hr
    · rename_i d2 ps2
      simp only [Bool.and_eq_true, beq_iff_eq] at hr
      obtain ⟨⟨⟨hjd, hso⟩, hsz⟩, hz⟩ := hr
      have hj := look_at hjd x.toInt ps.toList ps2.toList (by simpa using hsz) (by simpa using hz)
      obtain ⟨t, ht, hto⟩ := jOK_at hj
      exact lv_lookup hx hb hd hso rfl hto (hJ _ _ ht _ _ _ _ hxb hbg H locs la hR hS hl)
    · cases hr
  · exact hxb.elim
end SNM
end
section
/-! ===== BEGIN a constructor that throws (launches without stack traces) ===== -/
section VXIA
variable {p : Program} {l : Launch} {e : Env} {R : Room} {s : State} {m : MethodId} {args : Array Value} {below : List Frame} {meth : Method} {c : Code} {T : State} {locs : List Loc} {cells slots : Nat}
theorem vx_callI (X : Stand p l e R s m args below meth c T locs cells slots) (hexec : p.tables.exec = Jvm.exec) {own : String} {index : Nat} {y : MethodName} {bytes : ByteArray} {maxL : Nat}
    (hown : s.vm.findClass own = some m.cls) (hy1 : y.name = "<init>") (hlink : (Cond.methodLink own index y).before args s = true) (hinst : (Cond.instanceMethod y).before args s = true)
    (hcode : (Cond.code y bytes maxL none).before args s = true) (hy : y.cls ≠ "java/lang/invoke/MethodHandle" ∧ y.cls ≠ "java/lang/invoke/VarHandle")
    {W9 : Nat} {Pre : Pt → Array Value → Prop} {Post : Pt → Array Value → Option Value → Pt → Prop} {PostX : Pt → Array Value → Addr → Pt → Prop} (hK : vx_Back l R p e below s args y 3 W9 Pre Post PostX)
    {g : JFrame} (hg : g.method = m) (hsize : g.locals.size = c.maxLocals) {a : Addr} {argsL rest : List Value} (hlen : ∀ sig, parseMethodDescriptor y.desc = some sig → argsL.length = sig.parameters.length)
    (hstack : g.stack = argsL.reverse ++ .ref a :: rest) (hW : 2 * g.monitorRoom + (rest.map fun v => v.category).sum ≤ W9) (hdg : decode c.code g.pc = .ok (.invokespecial index, 3))
    (hpre : ∀ vm₁, s.WarmedH vm₁ → Pre ⟨T.setVm vm₁, locs, cells, slots⟩ (Value.ref a :: argsL).toArray) :
    (∃ (v : Option Value) (vm₁ : Vm) (B : Pt), s.WarmedH vm₁ ∧ Stand p l e R s m args below meth c B.U B.locs B.cells B.slots ∧ Post ⟨T.setVm vm₁, locs, cells, slots⟩ (Value.ref a :: argsL).toArray v B ∧
      ∀ target, Steps p.tables e below (B.U.setTop { g with pc := g.pc + 3, stack := v.toList ++ rest }) target → Steps p.tables e below (T.setTop g) target) ∨
    (∃ (q : Addr) (vm₁ : Vm) (B : Pt), s.WarmedH vm₁ ∧ Stand p l e R s m args below meth c B.U B.locs B.cells B.slots ∧ PostX ⟨T.setVm vm₁, locs, cells, slots⟩ (Value.ref a :: argsL).toArray q B ∧
      Steps p.tables e below (T.setTop g) ((B.U.setTop { g with stack := rest }).pushFrame (.throwing q))) := by
  subst hg
  have hpl : e.platform.magicAccessors = ({} : Platform).magicAccessors := by rw [X.admits.platform]
  obtain ⟨mk, methM, cM, kP, vm₁, hnamed, hmethM, hcodeM, -, hlocalsM, -, hkP, -, hW₁, hstep₁⟩ := Steps.initColdArgs (e := e) X.here hexec X.warmed hpl hown hy1 hy hlink hinst hcode (f := g) rfl hlen hstack hdg
  have X₁ := X.noted hW₁
  rcases hK g.method meth c ⟨T.setVm vm₁, locs, cells, slots⟩ { g with stack := rest } (.invokespecial index) mk (Value.ref a :: argsL).toArray X₁ rfl hsize hdg hW (X₁.named hnamed) (hpre vm₁ X₁.warmed) with ⟨v, B, X', hpost, hsteps⟩ | ⟨q, B, X', hpost, hsteps⟩
  · exact Or.inl ⟨v, vm₁, B, X₁.warmed, X', hpost, fun target h => hstep₁ _ fun acts => by rw [doInvoke_state]; exact hsteps.trans h⟩
  · exact Or.inr ⟨q, vm₁, B, X₁.warmed, X', hpost, hstep₁ _ fun acts => by rw [doInvoke_state]; exact hsteps⟩
end VXIA
section VXIB
variable {p : Program} {l : Launch} {e : Env} {R : Room} {s : State} {m : MethodId} {args : Array Value} {below : List Frame} {meth : Method} {c : Code} {H : Heap} {locs : List Loc} {cells slots : Nat}
variable {y : MethodName} {bytes cc : ByteArray} {maxL nL mc ms n index : Nat} {ret : Option FieldType} {ws : List Cond} {rm : Room} {Pc : Array Value → State → Prop} {Qc : Array Value → State → Outcome → State → Prop} {XC : String → State → State → Prop} {free : Addr → Prop} {Ts : List Cond} {own C : String} {b : Addr} {As rest : List Value} {g : JFrame}
theorem vx_runI (S : CallFix p m c cc nL s args Ts own) (hM : vx_Met l y ws rm Pc Qc XC mc ms free) (cw : CallB R s args own index y bytes maxL none ws rm mc ms n ∧ y.name = "<init>" ∧ (Cond.instanceMethod y).before args s = true) (hp : PreS s H Pc (.ref b :: As))
    (hg : g.method = m) (hn : As.length = n) (hsize : g.locals.size = nL) (hstack : g.stack = As.reverse ++ .ref b :: rest) (hW : 2 * g.monitorRoom + (rest.map fun v => v.category).sum ≤ 8) (hdg : decode cc g.pc = .ok (.invokespecial index, 3)) (hf : cells + mc ≤ R.cells ∧ slots + ms ≤ R.slots) :
    vx_Run p l e R s m args below meth c H locs cells slots mc ms g rest (Qc (Value.ref b :: As).toArray) XC free := by
  have hK : vx_Back l R p e below s args y 3 8 (PreOf R mc ms Pc) (PostOf Qc mc ms free) (vx_Post XC mc ms free) := vx_callBack cw.1 hM hp.1
  obtain ⟨⟨-, -, -, -, -, -, hcode, -, hy, hlen, hl⟩, hy1, hin⟩ := cw
  obtain ⟨hx, hb, hml, ho, -⟩ := S
  have hPc := hp.2
  intro T hT X
  rcases vx_callI X hx (bytes := bytes) (maxL := maxL) ho hy1 hl hin hcode hy hK hg (hsize.trans hml.symm) (a := b) (argsL := As) (rest := rest) (fun sig h => hn.trans (hlen sig h)) hstack hW (by rw [hb]; exact hdg)
    (fun vm₁ hW₁ => ⟨hf.1, hf.2, hPc (T.setVm vm₁) hT hW₁⟩) with ⟨v, vm₁, ⟨U', l2, c2, s2⟩, hW₁, X', ⟨g', mk, t, L, e1, e2, hq, h1, hL, h2, h3⟩, st⟩ | ⟨q, vm₁, ⟨U', l2, c2, s2⟩, hW₁, X', ⟨g', mk, t, L, E, ce, e1, e2, hq, hce, hcv, hcl, h1, hL, h2, h3⟩, st⟩
  · dsimp only [Pt.U, Pt.locs, Pt.cells, Pt.slots] at X' e1 e2 h1 h2 h3 st
    subst h1; subst h2; subst h3
    exact Or.inl ⟨v, (T.setVm vm₁).calling g' mk (Value.ref b :: As).toArray, t, U', L, hT, X', hL, e1, e2, hq, st⟩
  · dsimp only [Pt.U, Pt.locs, Pt.cells, Pt.slots] at X' e1 e2 h1 h2 h3 st hcl
    subst h1; subst h2; subst h3
    exact Or.inr ⟨q, (T.setVm vm₁).calling g' mk (Value.ref b :: As).toArray, t, U', L, E, ce, hT, X', hL, e1, e2, hq, hce, hcv, vx_cls hW₁ hcl, st⟩
end VXIB
/-! ===== END ===== -/
/-! ===== BEGIN a private constructor of a nest mate that throws ===== -/
section VXIC
variable {p : Program} {l : Launch} {e : Env} {R : Room} {s : State} {m : MethodId} {args : Array Value} {below : List Frame} {meth : Method} {c : Code} {T : State} {locs : List Loc} {cells slots : Nat}
theorem vx_callIN (X : Stand p l e R s m args below meth c T locs cells slots) (hexec : p.tables.exec = Jvm.exec) {own : String} {index : Nat} {host : String} {y : MethodName} {bytes : ByteArray} {maxL : Nat}
    (hown : s.vm.findClass own = some m.cls) (hy1 : y.name = "<init>") (hlink : (Cond.methodLinkNest own index y host).before args s = true) (hinst : (Cond.instanceMethod y).before args s = true)
    (hcode : (Cond.code y bytes maxL none).before args s = true) (hy : y.cls ≠ "java/lang/invoke/MethodHandle" ∧ y.cls ≠ "java/lang/invoke/VarHandle")
    {W9 : Nat} {Pre : Pt → Array Value → Prop} {Post : Pt → Array Value → Option Value → Pt → Prop} {PostX : Pt → Array Value → Addr → Pt → Prop} (hK : vx_Back l R p e below s args y 3 W9 Pre Post PostX)
    {g : JFrame} (hg : g.method = m) (hsize : g.locals.size = c.maxLocals) {a : Addr} {argsL rest : List Value} (hlen : ∀ sig, parseMethodDescriptor y.desc = some sig → argsL.length = sig.parameters.length)
    (hstack : g.stack = argsL.reverse ++ .ref a :: rest) (hW : 2 * g.monitorRoom + (rest.map fun v => v.category).sum ≤ W9) (hdg : decode c.code g.pc = .ok (.invokespecial index, 3))
    (hpre : ∀ vm₁, s.WarmedH vm₁ → Pre ⟨T.setVm vm₁, locs, cells, slots⟩ (Value.ref a :: argsL).toArray) :
    (∃ (v : Option Value) (vm₁ : Vm) (B : Pt), s.WarmedH vm₁ ∧ Stand p l e R s m args below meth c B.U B.locs B.cells B.slots ∧ Post ⟨T.setVm vm₁, locs, cells, slots⟩ (Value.ref a :: argsL).toArray v B ∧
      ∀ target, Steps p.tables e below (B.U.setTop { g with pc := g.pc + 3, stack := v.toList ++ rest }) target → Steps p.tables e below (T.setTop g) target) ∨
    (∃ (q : Addr) (vm₁ : Vm) (B : Pt), s.WarmedH vm₁ ∧ Stand p l e R s m args below meth c B.U B.locs B.cells B.slots ∧ PostX ⟨T.setVm vm₁, locs, cells, slots⟩ (Value.ref a :: argsL).toArray q B ∧
      Steps p.tables e below (T.setTop g) ((B.U.setTop { g with stack := rest }).pushFrame (.throwing q))) := by
  subst hg
  have hpl : e.platform.magicAccessors = ({} : Platform).magicAccessors := by rw [X.admits.platform]
  obtain ⟨mk, methM, cM, kP, vm₁, hnamed, hmethM, hcodeM, -, hlocalsM, -, hkP, -, hW₁, hstep₁⟩ := Steps.initColdArgsNest (e := e) X.here hexec X.warmed hpl hown hy1 hy hlink hinst hcode (f := g) rfl hlen hstack hdg
  have X₁ := X.noted hW₁
  rcases hK g.method meth c ⟨T.setVm vm₁, locs, cells, slots⟩ { g with stack := rest } (.invokespecial index) mk (Value.ref a :: argsL).toArray X₁ rfl hsize hdg hW (X₁.named hnamed) (hpre vm₁ X₁.warmed) with ⟨v, B, X', hpost, hsteps⟩ | ⟨q, B, X', hpost, hsteps⟩
  · exact Or.inl ⟨v, vm₁, B, X₁.warmed, X', hpost, fun target h => hstep₁ _ fun acts => by rw [doInvoke_state]; exact hsteps.trans h⟩
  · exact Or.inr ⟨q, vm₁, B, X₁.warmed, X', hpost, hstep₁ _ fun acts => by rw [doInvoke_state]; exact hsteps⟩
end VXIC
section VXID
variable {p : Program} {l : Launch} {e : Env} {R : Room} {s : State} {m : MethodId} {args : Array Value} {below : List Frame} {meth : Method} {c : Code} {H : Heap} {locs : List Loc} {cells slots : Nat}
theorem vx_runIN {y : MethodName} {bytes cc : ByteArray} {maxL nL mc ms n index : Nat} {ws : List Cond} {rm : Room} {Pc : Array Value → State → Prop} {Qc : Array Value → State → Outcome → State → Prop} {XC : String → State → State → Prop} {free : Addr → Prop} {Ts : List Cond} {own host : String} {b : Addr} {As rest : List Value} {g : JFrame}
    (S : CallFix p m c cc nL s args Ts own) (hM : vx_Met l y ws rm Pc Qc XC mc ms free) (cw : va_CN R s args own index y host bytes maxL none ws rm mc ms n ∧ y.name = "<init>" ∧ (Cond.instanceMethod y).before args s = true) (hp : PreS s H Pc (.ref b :: As))
    (hg : g.method = m) (hn : As.length = n) (hsize : g.locals.size = nL) (hstack : g.stack = As.reverse ++ .ref b :: rest) (hW : 2 * g.monitorRoom + (rest.map fun v => v.category).sum ≤ 8) (hdg : decode cc g.pc = .ok (.invokespecial index, 3)) (hf : cells + mc ≤ R.cells ∧ slots + ms ≤ R.slots) :
    vx_Run p l e R s m args below meth c H locs cells slots mc ms g rest (Qc (Value.ref b :: As).toArray) XC free := by
  obtain ⟨⟨⟨hrc, hrs, hfr, hlo, hws, hcw⟩, hcode, hini, hy, hlen, hl⟩, hx1, hx2⟩ := cw
  have hK : vx_Back l R p e below s args y 3 8 (PreOf R mc ms Pc) (PostOf Qc mc ms free) (vx_Post XC mc ms free) := vx_back (bytes := bytes) (maxL := maxL) (ret := none) hM hp.1 hrc hrs hfr hlo hws hcw (fun a' U hW => word_at hW (Or.inl (by first | rfl | simp [Cond.onTables, Cond.keeps, Cond.steady])) hini)
  obtain ⟨hx, hb, hml, ho, -⟩ := S
  have hPc := hp.2
  intro T hT X
  rcases vx_callIN X hx (bytes := bytes) (maxL := maxL) ho hx1 hl hx2 hcode hy hK hg (hsize.trans hml.symm) (a := b) (argsL := As) (rest := rest) (fun sig h => hn.trans (hlen sig h)) hstack hW (by rw [hb]; exact hdg)
    (fun vm₁ hW₁ => ⟨hf.1, hf.2, hPc (T.setVm vm₁) hT hW₁⟩) with ⟨v, vm₁, ⟨U', l2, c2, s2⟩, hW₁, X', ⟨g', mk, t, L, e1, e2, hq, h1, hL, h2, h3⟩, st⟩ | ⟨q, vm₁, ⟨U', l2, c2, s2⟩, hW₁, X', ⟨g', mk, t, L, E, ce, e1, e2, hq, hce, hcv, hcl, h1, hL, h2, h3⟩, st⟩
  · dsimp only [Pt.U, Pt.locs, Pt.cells, Pt.slots] at X' e1 e2 h1 h2 h3 st
    subst h1; subst h2; subst h3
    exact Or.inl ⟨v, (T.setVm vm₁).calling g' mk (Value.ref b :: As).toArray, t, U', L, hT, X', hL, e1, e2, hq, st⟩
  · dsimp only [Pt.U, Pt.locs, Pt.cells, Pt.slots] at X' e1 e2 h1 h2 h3 st hcl
    subst h1; subst h2; subst h3
    exact Or.inr ⟨q, (T.setVm vm₁).calling g' mk (Value.ref b :: As).toArray, t, U', L, E, ce, hT, X', hL, e1, e2, hq, hce, hcv, vx_cls hW₁ hcl, st⟩
end VXID
/-! ===== END ===== -/
/-! ===== BEGIN a private method of a nest mate that may throw (follows va_callVN, va_callSN, va_runVN, va_runSN) ===== -/
section
variable {p : Program} {l : Launch} {e : Env} {R : Room} {s : State} {m : MethodId} {args : Array Value} {below : List Frame} {meth : Method} {c : Code} {H : Heap} {locs : List Loc} {cells slots : Nat}
variable {T : State}
theorem vx_callVN (X : Stand p l e R s m args below meth c T locs cells slots) (hexec : p.tables.exec = Jvm.exec) {own C : String} {index : Nat} {host : String} {y : MethodName} {bytes : ByteArray} {maxL : Nat} {ret : Option FieldType}
    (hown : s.vm.findClass own = some m.cls) (hlink : (Cond.methodLinkNest own index y host).before args s = true) (hinst : (Cond.instanceMethod y).before args s = true) (hsel : (Cond.selects C y y).before args s = true)
    (hcode : (Cond.code y bytes maxL ret).before args s = true) (hy : y.cls ≠ "java/lang/invoke/MethodHandle" ∧ y.cls ≠ "java/lang/invoke/VarHandle")
    {W : Nat} {Pre : Pt → Array Value → Prop} {Post : Pt → Array Value → Option Value → Pt → Prop} {PostX : Pt → Array Value → Addr → Pt → Prop} (hK : vx_Back l R p e below s args y 3 W Pre Post PostX)
    {b : Addr} {cellB : Cell} (hcell : T.heap[b]? = some cellB) (hobj : cellB.vm.isStatics = false) (hcls : s.vm.findClass C = some cellB.cls)
    {g : JFrame} (hg : g.method = m) (hsize : g.locals.size = c.maxLocals) {argsL rest : List Value} (hlen : ∀ sig, parseMethodDescriptor y.desc = some sig → argsL.length = sig.parameters.length)
    (hstack : g.stack = argsL.reverse ++ .ref b :: rest) (hW : 2 * g.monitorRoom + (rest.map fun v => v.category).sum ≤ W) (hdg : decode c.code g.pc = .ok (.invokevirtual index, 3))
    (hpre : ∀ vm₁, s.WarmedH vm₁ → Pre ⟨T.setVm vm₁, locs, cells, slots⟩ (Value.ref b :: argsL).toArray) :
    (∃ (v : Option Value) (vm₁ : Vm) (B : Pt), s.WarmedH vm₁ ∧ Stand p l e R s m args below meth c B.U B.locs B.cells B.slots ∧ Post ⟨T.setVm vm₁, locs, cells, slots⟩ (Value.ref b :: argsL).toArray v B ∧
      ∀ target, Steps p.tables e below (B.U.setTop { g with pc := g.pc + 3, stack := v.toList ++ rest }) target → Steps p.tables e below (T.setTop g) target) ∨
    (∃ (q : Addr) (vm₁ : Vm) (B : Pt), s.WarmedH vm₁ ∧ Stand p l e R s m args below meth c B.U B.locs B.cells B.slots ∧ PostX ⟨T.setVm vm₁, locs, cells, slots⟩ (Value.ref b :: argsL).toArray q B ∧
      Steps p.tables e below (T.setTop g) ((B.U.setTop { g with stack := rest }).pushFrame (.throwing q))) := by
  obtain ⟨mk, methM, hnamed, hmethM, hstM, habM⟩ := Cond.instanceMethod_spec hinst
  obtain ⟨methM', cM, hmethM', -, -, -, -, -, -, hsigM⟩ := Cond.code_spec hnamed hcode
  cases hmethM.symm.trans hmethM'
  obtain ⟨c2, r2, m2, q1, q2, q3, q4, kP, hkP, hkPi⟩ := Cond.selects_spec hsel
  cases hcls.symm.trans q1
  cases (State.methodFound?_of_named hnamed hy).symm.trans q2
  cases hnamed.symm.trans q3
  have hselP : selectMethod e.platform s.vm cellB.cls mk = .method mk := by rw [Launch.admits_selectMethod X.admits]; exact q4
  obtain ⟨vm₁, X₁, hstep₁⟩ := X.invokevirtualNest hexec hown hlink hnamed hmethM hstM hkP hkPi hy (a := b) (cell := cellB) hcell
    (fun z h => by rw [h] at hobj; cases hobj) hselP hmethM habM hkP hkPi (g := g) hg (argsL := argsL) (rest := rest) (hlen _ hsigM) hstack hdg
  rcases hK m meth c ⟨T.setVm vm₁, locs, cells, slots⟩ { g with stack := rest } (.invokevirtual index) mk (Value.ref b :: argsL).toArray X₁ hg hsize hdg hW (X₁.named hnamed) (hpre vm₁ X₁.warmed) with ⟨v, B, X', hpost, hsteps⟩ | ⟨q, B, X', hpost, hsteps⟩
  · exact Or.inl ⟨v, vm₁, B, X₁.warmed, X', hpost, fun target h => hstep₁ _ fun acts => by rw [doInvoke_state]; exact hsteps.trans h⟩
  · exact Or.inr ⟨q, vm₁, B, X₁.warmed, X', hpost, hstep₁ _ fun acts => by rw [doInvoke_state]; exact hsteps⟩
theorem vx_callSN (X : Stand p l e R s m args below meth c T locs cells slots) (hexec : p.tables.exec = Jvm.exec) {own : String} {index : Nat} {host : String} {y : MethodName} {bytes : ByteArray} {maxL : Nat} {ret : Option FieldType}
    (hown : s.vm.findClass own = some m.cls) (hlink : (Cond.methodLinkNest own index y host).before args s = true) (hstat : (Cond.static y).before args s = true) (hinit : (Cond.initialized y.cls).before args s = true)
    (hcode : (Cond.code y bytes maxL ret).before args s = true) (hy : y.cls ≠ "java/lang/invoke/MethodHandle" ∧ y.cls ≠ "java/lang/invoke/VarHandle")
    {W : Nat} {Pre : Pt → Array Value → Prop} {Post : Pt → Array Value → Option Value → Pt → Prop} {PostX : Pt → Array Value → Addr → Pt → Prop} (hK : vx_Back l R p e below s args y 3 W Pre Post PostX)
    {g : JFrame} (hg : g.method = m) (hsize : g.locals.size = c.maxLocals) {argsL rest : List Value} (hlen : ∀ sig, parseMethodDescriptor y.desc = some sig → argsL.length = sig.parameters.length)
    (hstack : g.stack = argsL.reverse ++ rest) (hW : 2 * g.monitorRoom + (rest.map fun v => v.category).sum ≤ W) (hdg : decode c.code g.pc = .ok (.invokestatic index, 3))
    (hpre : ∀ vm₁, s.WarmedH vm₁ → Pre ⟨T.setVm vm₁, locs, cells, slots⟩ argsL.toArray) :
    (∃ (v : Option Value) (vm₁ : Vm) (B : Pt), s.WarmedH vm₁ ∧ Stand p l e R s m args below meth c B.U B.locs B.cells B.slots ∧ Post ⟨T.setVm vm₁, locs, cells, slots⟩ argsL.toArray v B ∧
      ∀ target, Steps p.tables e below (B.U.setTop { g with pc := g.pc + 3, stack := v.toList ++ rest }) target → Steps p.tables e below (T.setTop g) target) ∨
    (∃ (q : Addr) (vm₁ : Vm) (B : Pt), s.WarmedH vm₁ ∧ Stand p l e R s m args below meth c B.U B.locs B.cells B.slots ∧ PostX ⟨T.setVm vm₁, locs, cells, slots⟩ argsL.toArray q B ∧
      Steps p.tables e below (T.setTop g) ((B.U.setTop { g with stack := rest }).pushFrame (.throwing q))) := by
  obtain ⟨mk, hnamed⟩ := Cond.code_named hcode
  obtain ⟨methM, cM, hmethM, -, -, -, -, -, -, hsigM⟩ := Cond.code_spec hnamed hcode
  have hstatic : methM.isStatic = true := Cond.static_spec hnamed hmethM hstat
  obtain ⟨kP, hkP, -⟩ := className_of_methodNamed hnamed
  have hinitP : kP.init = .initialized := Cond.initialized_spec (findClass_of_methodNamed hnamed) hkP hinit
  obtain ⟨vm₁, X₁, hstep₁⟩ := X.invokestaticNest hexec hown hlink hnamed hmethM hstatic hkP hinitP hy (g := g) hg (argsL := argsL) (rest := rest) (hlen _ hsigM) hstack hdg
  rcases hK m meth c ⟨T.setVm vm₁, locs, cells, slots⟩ { g with stack := rest } (.invokestatic index) mk argsL.toArray X₁ hg hsize hdg hW (X₁.named hnamed) (hpre vm₁ X₁.warmed) with ⟨v, B, X', hpost, hsteps⟩ | ⟨q, B, X', hpost, hsteps⟩
  · exact Or.inl ⟨v, vm₁, B, X₁.warmed, X', hpost, fun target h => hstep₁ _ fun acts => by rw [doInvoke_state]; exact hsteps.trans h⟩
  · exact Or.inr ⟨q, vm₁, B, X₁.warmed, X', hpost, hstep₁ _ fun acts => by rw [doInvoke_state]; exact hsteps⟩
theorem vx_runVN {y : MethodName} {bytes cc : ByteArray} {maxL nL mc ms n index : Nat} {ret : Option FieldType} {ws : List Cond} {rm : Room} {Pc : Array Value → State → Prop} {Qc : Array Value → State → Outcome → State → Prop} {XC : String → State → State → Prop} {free : Addr → Prop} {Ts : List Cond} {own C host : String} {b : Addr} {As rest : List Value} {g : JFrame}
    (S : CallFix p m c cc nL s args Ts own) (hM : vx_Met l y ws rm Pc Qc XC mc ms free) (cw : va_CN R s args own index y host bytes maxL ret ws rm mc ms n ∧ (Cond.instanceMethod y).before args s = true ∧ (Cond.selects C y y).before args s = true) (hp : PreV s H C b Pc As)
    (hg : g.method = m) (hn : As.length = n) (hsize : g.locals.size = nL) (hstack : g.stack = As.reverse ++ .ref b :: rest) (hW : 2 * g.monitorRoom + (rest.map fun v => v.category).sum ≤ 8) (hdg : decode cc g.pc = .ok (.invokevirtual index, 3)) (hf : cells + mc ≤ R.cells ∧ slots + ms ≤ R.slots) :
    vx_Run p l e R s m args below meth c H locs cells slots mc ms g rest (Qc (Value.ref b :: As).toArray) XC free := by
  obtain ⟨⟨⟨hrc, hrs, hfr, hlo, hws, hcw⟩, hcode, hini, hy, hlen, hl⟩, hx1, hx2⟩ := cw
  have hK : vx_Back l R p e below s args y 3 8 (PreOf R mc ms Pc) (PostOf Qc mc ms free) (vx_Post XC mc ms free) := vx_back (bytes := bytes) (maxL := maxL) (ret := ret) hM hp.1 hrc hrs hfr hlo hws hcw (fun a' U hW => word_at hW (Or.inl (by first | rfl | simp [Cond.onTables, Cond.keeps, Cond.steady])) hini)
  obtain ⟨hx, hb, hml, ho, -⟩ := S
  obtain ⟨-, ⟨cellB, hcB, hoB, hclB⟩, hPc⟩ := hp
  intro T hT X
  rcases vx_callVN X hx (C := C) (bytes := bytes) (maxL := maxL) (ret := ret) ho hl hx1 hx2 hcode hy hK (by rw [hT]; exact hcB) hoB hclB hg (hsize.trans hml.symm) (argsL := As) (rest := rest) (fun sig h => hn.trans (hlen sig h)) hstack hW (by rw [hb]; exact hdg)
    (fun vm₁ hW₁ => ⟨hf.1, hf.2, hPc (T.setVm vm₁) hT hW₁⟩) with ⟨v, vm₁, ⟨U', l2, c2, s2⟩, hW₁, X', ⟨g', mk, t, L, e1, e2, hq, h1, hL, h2, h3⟩, st⟩ | ⟨q, vm₁, ⟨U', l2, c2, s2⟩, hW₁, X', ⟨g', mk, t, L, E, ce, e1, e2, hq, hce, hcv, hcl, h1, hL, h2, h3⟩, st⟩
  · dsimp only [Pt.U, Pt.locs, Pt.cells, Pt.slots] at X' e1 e2 h1 h2 h3 st
    subst h1; subst h2; subst h3
    exact Or.inl ⟨v, (T.setVm vm₁).calling g' mk (Value.ref b :: As).toArray, t, U', L, hT, X', hL, e1, e2, hq, st⟩
  · dsimp only [Pt.U, Pt.locs, Pt.cells, Pt.slots] at X' e1 e2 h1 h2 h3 st hcl
    subst h1; subst h2; subst h3
    exact Or.inr ⟨q, (T.setVm vm₁).calling g' mk (Value.ref b :: As).toArray, t, U', L, E, ce, hT, X', hL, e1, e2, hq, hce, hcv, vx_cls hW₁ hcl, st⟩
theorem vx_runSN {y : MethodName} {bytes cc : ByteArray} {maxL nL mc ms n index : Nat} {ret : Option FieldType} {ws : List Cond} {rm : Room} {Pc : Array Value → State → Prop} {Qc : Array Value → State → Outcome → State → Prop} {XC : String → State → State → Prop} {free : Addr → Prop} {Ts : List Cond} {own host : String} {As rest : List Value} {g : JFrame}
    (S : CallFix p m c cc nL s args Ts own) (hM : vx_Met l y ws rm Pc Qc XC mc ms free) (cw : va_CN R s args own index y host bytes maxL ret ws rm mc ms n ∧ (Cond.static y).before args s = true ∧ True) (hp : PreS s H Pc As)
    (hg : g.method = m) (hn : As.length = n) (hsize : g.locals.size = nL) (hstack : g.stack = As.reverse ++ rest) (hW : 2 * g.monitorRoom + (rest.map fun v => v.category).sum ≤ 8) (hdg : decode cc g.pc = .ok (.invokestatic index, 3)) (hf : cells + mc ≤ R.cells ∧ slots + ms ≤ R.slots) :
    vx_Run p l e R s m args below meth c H locs cells slots mc ms g rest (Qc As.toArray) XC free := by
  obtain ⟨⟨⟨hrc, hrs, hfr, hlo, hws, hcw⟩, hcode, hini, hy, hlen, hl⟩, hx1, hx2⟩ := cw
  have hK : vx_Back l R p e below s args y 3 8 (PreOf R mc ms Pc) (PostOf Qc mc ms free) (vx_Post XC mc ms free) := vx_back (bytes := bytes) (maxL := maxL) (ret := ret) hM hp.1 hrc hrs hfr hlo hws hcw (fun a' U hW => word_at hW (Or.inl (by first | rfl | simp [Cond.onTables, Cond.keeps, Cond.steady])) hini)
  obtain ⟨hx, hb, hml, ho, -⟩ := S
  have hPc := hp.2
  intro T hT X
  rcases vx_callSN X hx (bytes := bytes) (maxL := maxL) (ret := ret) ho hl hx1 hini hcode hy hK hg (hsize.trans hml.symm) (argsL := As) (rest := rest) (fun sig h => hn.trans (hlen sig h)) hstack hW (by rw [hb]; exact hdg)
    (fun vm₁ hW₁ => ⟨hf.1, hf.2, hPc (T.setVm vm₁) hT hW₁⟩) with ⟨v, vm₁, ⟨U', l2, c2, s2⟩, hW₁, X', ⟨g', mk, t, L, e1, e2, hq, h1, hL, h2, h3⟩, st⟩ | ⟨q, vm₁, ⟨U', l2, c2, s2⟩, hW₁, X', ⟨g', mk, t, L, E, ce, e1, e2, hq, hce, hcv, hcl, h1, hL, h2, h3⟩, st⟩
  · dsimp only [Pt.U, Pt.locs, Pt.cells, Pt.slots] at X' e1 e2 h1 h2 h3 st
    subst h1; subst h2; subst h3
    exact Or.inl ⟨v, (T.setVm vm₁).calling g' mk As.toArray, t, U', L, hT, X', hL, e1, e2, hq, st⟩
  · dsimp only [Pt.U, Pt.locs, Pt.cells, Pt.slots] at X' e1 e2 h1 h2 h3 st hcl
    subst h1; subst h2; subst h3
    exact Or.inr ⟨q, (T.setVm vm₁).calling g' mk As.toArray, t, U', L, E, ce, hT, X', hL, e1, e2, hq, hce, hcv, vx_cls hW₁ hcl, st⟩
end
/-! ===== END ===== -/
end
section
/-! ===== the methods' words; calls ===== -/
def mOKb (m : ac_M) : Bool :=
  plainFor (mY m) && decide ((mY m).cls ≠ "java/lang/invoke/MethodHandle") && decide ((mY m).cls ≠ "java/lang/invoke/VarHandle") &&
  decide ((parseMethodDescriptor (mY m).desc).map (fun d => d.parameters.length) = some (mN m)) &&
  decide (lw_tbl[(mP m).getD 1 0]? = some (.initialized (mY m).cls)) &&
  (if mT m = [] then decide (lw_tbl[(mP m).getD 0 0]? = some (.code (mY m) (mC m) (mL m) (mR m))) else decide (lw_tbl[(mP m).getD 0 0]? = some (.codeWith (mY m) (mC m) (mL m) (mR m) (mT m)))) &&
  (if mK m = 1 ∨ mK m = 6 then decide (lw_tbl[(mP m).getD 2 0]? = some (.static (mY m))) else decide (lw_tbl[(mP m).getD 2 0]? = some (.instanceMethod (mY m)))) &&
  (if mK m = 0 then decide (lw_tbl[(mP m).getD 3 0]? = some (.selects (mY m).cls (mY m) (mY m))) else true) &&
  (if mK m = 2 then decide ((mY m).name = "<init>") && decide (mR m = none) else true) && (if mK m = 6 then true else decide (mT m = [])) && (if mT m = [] then decide (mH m = []) else true)
set_option maxRecDepth 100000 in
theorem mk0 : ∀ m ∈ ms0, mOKb m = true := by decide +kernel
set_option maxRecDepth 100000 in
theorem mk1 : ∀ m ∈ ms1, mOKb m = true := by decide +kernel
set_option maxRecDepth 100000 in
theorem mk2 : ∀ m ∈ ms2, mOKb m = true := by decide +kernel
set_option maxRecDepth 100000 in
theorem mk3 : ∀ m ∈ ms3, mOKb m = true := by decide +kernel
set_option maxRecDepth 100000 in
theorem mk4 : ∀ m ∈ ms4, mOKb m = true := by decide +kernel
set_option maxRecDepth 100000 in
theorem mk5 : ∀ m ∈ ms5, mOKb m = true := by decide +kernel
set_option maxRecDepth 100000 in
theorem mk6 : ∀ m ∈ ms6, mOKb m = true := by decide +kernel
set_option maxRecDepth 100000 in
theorem mk7 : ∀ m ∈ ms7, mOKb m = true := by decide +kernel
set_option maxRecDepth 100000 in
theorem mk8 : ∀ m ∈ ms8, mOKb m = true := by decide +kernel
set_option maxRecDepth 100000 in
theorem mk9 : ∀ m ∈ ms9, mOKb m = true := by decide +kernel
set_option maxRecDepth 100000 in
theorem mk10 : ∀ m ∈ ms10, mOKb m = true := by decide +kernel
theorem mkAll : ∀ m ∈ methods, mOKb m = true := by
  intro m hm
  unfold methods at hm
  rcases List.mem_append.mp hm with hm | hm
  · exact mk0 m hm
  rcases List.mem_append.mp hm with hm | hm
  · exact mk1 m hm
  rcases List.mem_append.mp hm with hm | hm
  · exact mk2 m hm
  rcases List.mem_append.mp hm with hm | hm
  · exact mk3 m hm
  rcases List.mem_append.mp hm with hm | hm
  · exact mk4 m hm
  rcases List.mem_append.mp hm with hm | hm
  · exact mk5 m hm
  rcases List.mem_append.mp hm with hm | hm
  · exact mk6 m hm
  rcases List.mem_append.mp hm with hm | hm
  · exact mk7 m hm
  rcases List.mem_append.mp hm with hm | hm
  · exact mk8 m hm
  rcases List.mem_append.mp hm with hm | hm
  · exact mk9 m hm
  exact mk10 m hm
def mthOKb (q : Nat × Nat × Nat × Nat × Nat) : Bool := match methods[q.2.2.1]? with
  | none => false
  | some m => (if q.2.1 = 4 ∨ q.2.1 = 5 then true else decide (lw_tbl[q.2.2.2.2]? = some (.methodLink (oR q.1) q.2.2.2.1 (mY m)))) && (if q.2.1 = 4 then decide (mK m = 1) else if q.2.1 = 5 then decide (mK m = 2) else decide (mK m = q.2.1))
set_option maxRecDepth 100000 in
theorem mth_ok : ∀ q ∈ mthTab, mthOKb q = true := by decide +kernel
end
section
/-! ===== calls ===== -/
/-- what a method's words are -/
def wsK (m : ac_M) : List Cond := (if mT m = [] then Cond.code (mY m) (mC m) (mL m) (mR m) else Cond.codeWith (mY m) (mC m) (mL m) (mR m) (mT m)) :: WG
def rmK (F Lc : Nat) (m : ac_M) : Room := { frames := F, cells := (mB m).1, slots := (mB m).2, locals := Lc }
/-- a method's facts -/
def mFacts (m : ac_M) : Prop := plainFor (mY m) = true ∧ ((mY m).cls ≠ "java/lang/invoke/MethodHandle" ∧ (mY m).cls ≠ "java/lang/invoke/VarHandle" ∧ (parseMethodDescriptor (mY m).desc).map (fun d => d.parameters.length) = some (mN m)) ∧ Cond.initialized (mY m).cls ∈ WG ∧ (mT m = [] → Cond.code (mY m) (mC m) (mL m) (mR m) ∈ WG) ∧ (¬ mT m = [] → Cond.codeWith (mY m) (mC m) (mL m) (mR m) (mT m) ∈ WG) ∧ ((mK m = 1 ∨ mK m = 6) → Cond.static (mY m) ∈ WG) ∧ (¬ (mK m = 1 ∨ mK m = 6) → Cond.instanceMethod (mY m) ∈ WG) ∧ (mK m = 0 → Cond.selects (mY m).cls (mY m) (mY m) ∈ WG) ∧ (mK m = 2 → (mY m).name = "<init>" ∧ mR m = none) ∧ (¬ mK m = 6 → mT m = []) ∧ (mT m = [] → mH m = [])
theorem mFacts_of {m : ac_M} (hm : m ∈ methods) : mFacts m := by
  have h := mkAll m hm
  unfold mOKb at h
  simp only [Bool.and_eq_true, decide_eq_true_eq] at h
  obtain ⟨⟨⟨⟨⟨⟨⟨⟨⟨⟨h1, h2⟩, h3⟩, h4⟩, h5⟩, h6⟩, h7⟩, h8⟩, h9⟩, h10⟩, h11⟩ := h
  refine ⟨h1, ⟨h2, h3, h4⟩, wg_in h5 rfl, fun e => ?_, fun e => ?_, fun e => ?_, fun e => ?_, fun e => ?_, fun e => ?_, fun e => ?_, fun e => ?_⟩
  · rw [if_pos e, decide_eq_true_eq] at h6; exact wg_in h6 rfl
  · rw [if_neg e, decide_eq_true_eq] at h6; exact wg_in h6 rfl
  · rw [if_pos e, decide_eq_true_eq] at h7; exact wg_in h7 rfl
  · rw [if_neg e, decide_eq_true_eq] at h7; exact wg_in h7 rfl
  · rw [if_pos e, decide_eq_true_eq] at h8; exact wg_in h8 rfl
  · rw [if_pos e] at h9; simpa using h9
  · rw [if_neg e, decide_eq_true_eq] at h10; exact h10
  · rw [if_pos e, decide_eq_true_eq] at h11; exact h11
theorem WG_good {w : Cond} (h : w ∈ WG) : (w.onTables && w.keeps) = true ∨ ∃ ty, w = .arrayClass ty := good_of_word (List.mem_filter.mp h).2
theorem good_WG {ws : List Cond} (h : ∀ w ∈ ws, w ∈ WG) : GoodIn WG ws := fun w hw => ⟨h w hw, WG_good (h w hw)⟩
theorem wsK_WG {m : ac_M} (hf : mFacts m) : ∀ w ∈ wsK m, w ∈ WG := by
  intro w hw
  rcases List.mem_cons.mp hw with h | h
  · by_cases e : mT m = []
    · rw [if_pos e] at h; rw [h]; exact hf.2.2.2.1 e
    · rw [if_neg e] at h; rw [h]; exact hf.2.2.2.2.1 e
  · exact h
def QcP (D : va_G) (cA : Nat → ClassId) (A : Nat → Prop) (P : ac_P) : Array Value → State → Outcome → State → Prop := fun _ st oc t => (∃ (v : Option Value) (h : ac_H), oc = .returned v ∧ P (.inl v) h ∧ xRel D cA A h t.heap) ∧ va_F A st t
def XcP (D : va_G) (cA : Nat → ClassId) (A : Nat → Prop) (P : ac_P) : String → State → State → Prop := fun E st t => (∃ (k : Nat) (h : ac_H), k < 4 ∧ E = exN k ∧ P (.inr k) h ∧ xRel D cA A h t.heap) ∧ va_F A st t
def xMet (l : Launch) (D : va_G) (cA : Nat → ClassId) (A : Nat → Prop) (GB : State → Prop) (F Lc : Nat) (m : ac_M) (as : List Value) (h : ac_H) (P : ac_P) : Prop := vx_Met l (mY m) (wsK m) (rmK F Lc m) (va_Pc as (fun U => GB U ∧ xRel D cA A h U.heap)) (QcP D cA A P) (XcP D cA A P) (mB m).1 (mB m).2 A
section SNC
variable {p : Program} {l : Launch} {e : Env} {R : Room} {s : State} {m : MethodId} {args : Array Value} {below : List Frame} {meth : Method} {c : Code} {Z : State → Prop} {D : va_G} {cA : Nat → ClassId} {A : Nat → Prop}
variable {cc : ByteArray} {own : Nat} {isI : Bool} {tr : Nat} {nL : Nat} {sp : List Nat}
variable {call : Nat → List Value → ac_H → ac_P → Prop} {cs : Nat → Nat × Nat} {ga : Nat → Nat} {L : Nat} {xs : Nat → Int32} {sl : Nat → List Int32} {mb : Nat × Nat} {hands : List (Nat × Int)} {rt : Option FieldType} {Q : ac_P} {J : Nat → ac_X}
variable {is : ac_I} {ls : ac_L} {st : List Value} {h : ac_H} {bg : Nat × Nat} {pc n : Nat}

theorem run_go {mc ms : Nat} {arr : Array Value} {H : Heap} {locs : List Loc} {la : Array Slot} {rest st0 : List Value} {bg2 : Nat × Nat} (hr : vx_Run p l e R s m args below meth c H locs bg.1 bg.2 mc ms (F0 m pc la st0) rest (QcP D cA A (xK Q hands (xB call cs ga L xs sl mb hands rt Q J is) ls rest bg2) arr) (XcP D cA A (xK Q hands (xB call cs ga L xs sl mb hands rt Q J is) ls rest bg2)) A) (hS : va_S A s.heap H locs) (hb2 : bg2 = bgad bg (mc, ms)) (hbb : bgle bg2 mb) (hl : lv_has la nL (lvf 0 ls)) (hw : rowOK own isI tr nL sp cc (pc + 3) is = true) (htr : tr = 0 ∨ pc < tr)
    (ih : ∀ (pc : Nat) (ls : ac_L) (st : List Value) (h : ac_H) (bg : Nat × Nat), rowOK own isI tr nL sp cc pc is = true → xB call cs ga L xs sl mb hands rt Q J is ls st h bg → xR p l e R s m args below meth c Z D cA A nL mb pc ls st h bg)
    (hThr : ∀ (k pc : Nat) (h : ac_H) (bg : Nat × Nat) (H : Heap) (locs : List Loc) (la : Array Slot) (rest : List Value) (q : Addr) (ce : Cell), k < 4 → (tr = 0 ∨ pc < tr) → (match hands.lookup k with | some c9 => Q (.inl (some (.int (kI c9)))) h | none => Q (.inr k) h) → xRel D cA A h H → va_S A s.heap H locs → bgle bg mb → lv_has la nL [] → H[q]? = some ce → ce.vm = .none → s.vm.findClass (exN k) = some ce.cls → vx_W p l e R s m args below meth c H locs bg.1 bg.2 Z (F0 m pc la rest) q) :
    W p l e R s m args below meth c H locs bg.1 bg.2 Z (F0 m pc la st0) := by
  intro T hT X
  subst hb2
  rcases hr T hT X with ⟨v, st₀, t, T', L9, h0, X', hL, e1, e2, ⟨⟨v', h', hv, hP', hrel⟩, hF⟩, stp⟩ | ⟨q, st₀, t, T', L9, E, ce, h0, X', hL, e1, e2, ⟨⟨k, h', hk, hE, hP', hrel⟩, hF⟩, hce, hcv, hcl, stp⟩
  · cases hv
    obtain ⟨-, -, hS1⟩ := vx_keep h0 e1 hS (fun _ _ h => h) (fun _ h => h) hL hF
    rw [← e1] at hrel
    cases v with
    | none =>
      obtain ⟨t2, a1, b1⟩ := ih _ _ _ _ _ hw hP' hbb T'.heap _ la hrel hS1 hl T' rfl X'
      exact ⟨t2, stp t2 a1, b1⟩
    | some v =>
      obtain ⟨t2, a1, b1⟩ := ih _ _ _ _ _ hw hP' hbb T'.heap _ la hrel hS1 hl T' rfl X'
      exact ⟨t2, stp t2 a1, b1⟩
  · obtain ⟨-, -, hS1⟩ := vx_keep h0 e1 hS (fun _ _ h => h) (fun _ h => h) hL hF
    rw [← e1] at hrel hce
    subst hE
    have hP2 : (match hands.lookup k with | some c9 => Q (.inl (some (.int (kI c9)))) h' | none => Q (.inr k) h') := hP'
    obtain ⟨t2, a1, b1⟩ := hThr k pc h' _ T'.heap _ la rest q ce hk htr hP2 hrel hS1 hbb ⟨hl.1, hl.2.1, fun _ h => nomatch h⟩ hce hcv hcl T' rfl X'
    exact ⟨t2, stp.trans a1, b1⟩
end SNC
end
section
/-! ===== calls: the six kinds ===== -/
theorem popn_at : ∀ (n : Nat) (st acc as rest : List Value), popn n st acc = some (as, rest) → ∃ xs, xs.length = n ∧ st = xs ++ rest ∧ as = xs.reverse ++ acc
  | 0, st, acc, as, rest, h => by
    cases h
    exact ⟨[], rfl, rfl, rfl⟩
  | n + 1, [], acc, as, rest, h => by cases h
  | n + 1, v :: st, acc, as, rest, h => by
    obtain ⟨xs, h1, h2, h3⟩ := popn_at n st (v :: acc) as rest h
    exact ⟨v :: xs, by simp [h1], by simp [h2], by simp [h3]⟩
theorem popn_as {n : Nat} {st as rest : List Value} (h : popn n st [] = some (as, rest)) : as.length = n ∧ st = as.reverse ++ rest := by
  obtain ⟨xs, h1, h2, h3⟩ := popn_at n st [] as rest h
  rw [List.append_nil] at h3
  subst h3
  exact ⟨by simp [h1], by simp [h2]⟩
theorem cst_of {k : Nat} {md : ac_M} (h : methods[k]? = some md) : mB md = cst k := by
  have hk : k < 297 := by
    have := (List.getElem?_eq_some_iff.mp h).1
    rw [methods_len] at this
    exact this
  have h1 := List.all_eq_true.mp cst_eq k (List.mem_range.mpr hk)
  rw [h] at h1
  exact of_decide_eq_true h1
theorem zc_of {k : Nat} (h : zc k = true) : cst k = (0, 0) := by
  unfold zc at h
  unfold cst
  cases e : costTab.find? (fun q => q.1 == k) with
  | none => rfl
  | some q =>
    have h1 := List.find?_some e
    have h2 := List.mem_of_find?_eq_some e
    rw [Bool.not_eq_true', List.any_eq_false] at h
    exact absurd h1 (h q h2)
theorem any4 {own kd k j : Nat} {T : List (Nat × Nat × Nat × Nat × Nat)} (h : (T.any (fun q => q.1 == own && q.2.1 == kd && q.2.2.1 == k && q.2.2.2.1 == j)) = true) : ∃ i, (own, kd, k, j, i) ∈ T := by
  obtain ⟨q, hq, h1⟩ := List.any_eq_true.mp h
  simp only [Bool.and_eq_true, beq_iff_eq] at h1
  obtain ⟨⟨⟨rfl, rfl⟩, rfl⟩, rfl⟩ := h1
  exact ⟨_, hq⟩
theorem any4o {own k1 k2 k j : Nat} {T : List (Nat × Nat × Nat × Nat × Nat)} (h : (T.any (fun q => q.1 == own && (q.2.1 == k1 || q.2.1 == k2) && q.2.2.1 == k && q.2.2.2.1 == j)) = true) : ∃ kd i, (kd = k1 ∨ kd = k2) ∧ (own, kd, k, j, i) ∈ T := by
  obtain ⟨q, hq, h1⟩ := List.any_eq_true.mp h
  simp only [Bool.and_eq_true, beq_iff_eq, Bool.or_eq_true] at h1
  obtain ⟨⟨⟨rfl, hk⟩, rfl⟩, rfl⟩ := h1
  exact ⟨_, _, hk, hq⟩
theorem mth_at {q : Nat × Nat × Nat × Nat × Nat} (hq : q ∈ mthTab) : ∃ md, methods[q.2.2.1]? = some md ∧ (¬ (q.2.1 = 4 ∨ q.2.1 = 5) → Cond.methodLink (oR q.1) q.2.2.2.1 (mY md) ∈ WG) ∧ (q.2.1 = 4 → mK md = 1) ∧ (q.2.1 = 5 → mK md = 2) ∧ (¬ (q.2.1 = 4 ∨ q.2.1 = 5) → mK md = q.2.1) := by
  have h := mth_ok q hq
  unfold mthOKb at h
  split at h
  · cases h
  · rename_i md hm
    rw [Bool.and_eq_true] at h
    obtain ⟨h1, h2⟩ := h
    refine ⟨md, hm, fun e => ?_, fun e => ?_, fun e => ?_, fun e => ?_⟩
    · rw [if_neg e, decide_eq_true_eq] at h1; exact wg_in h1 rfl
    · rw [if_pos e, decide_eq_true_eq] at h2; exact h2
    · rw [if_neg (by omega), if_pos e, decide_eq_true_eq] at h2; exact h2
    · rw [if_neg (fun z => e (Or.inl z)), if_neg (fun z => e (Or.inr z)), decide_eq_true_eq] at h2; exact h2
theorem isO_head {h : ac_H} {as : List Value} {ci : Nat} (hio : isO h as.head? ci) : ∃ b As fs, as = .ref b :: As ∧ h b = some (.inr (ci, fs)) := by
  match as, hio with
  | .ref b :: As, hio =>
    obtain ⟨fs, hfs⟩ := hio
    exact ⟨b, As, fs, rfl, hfs⟩
section SNV
variable {p : Program} {l : Launch} {e : Env} {R : Room} {s : State} {m : MethodId} {args : Array Value} {below : List Frame} {meth : Method} {c : Code} {Z : State → Prop} {D : va_G} {cA : Nat → ClassId} {A : Nat → Prop}
variable {cc : ByteArray} {own : Nat} {isI : Bool} {tr : Nat} {nL : Nat} {sp : List Nat}
variable {call : Nat → List Value → ac_H → ac_P → Prop} {cs : Nat → Nat × Nat} {ga : Nat → Nat} {L : Nat} {xs : Nat → Int32} {sl : Nat → List Int32} {mb : Nat × Nat} {hands : List (Nat × Int)} {rt : Option FieldType} {Q : ac_P} {J : Nat → ac_X}
variable {is : ac_I} {ls : ac_L} {st : List Value} {h : ac_H} {bg : Nat × Nat} {pc n : Nat}

/-- a call, whatever its kind: what vx_Run says of it -/
theorem inv_run (hx : p.tables.exec = Jvm.exec) (hb : c.code = cc) (hts : ∀ w ∈ WG, w.before args s = true) (hown : s.vm.findClass (oR own) = some m.cls) (hK : va_K D vwCl (tysK cA) s) {GB : State → Prop} {F Lc : Nat} (hGB : ∀ (H : Heap) (locs : List Loc) (U : State), va_S A s.heap H locs → U.heap = H → s.WarmedH U.vm → GB U) (hGBb : ∀ (a : Array Value) (U : State) (g : JFrame) (mk : MethodId), GB U → GB (U.calling g mk a)) (hRm : F + 1 ≤ R.frames ∧ ∀ md ∈ methods, 8 + (mL md + 11) + Lc ≤ R.locals) (hRC : mb.1 ≤ R.cells ∧ mb.2 ≤ R.slots) (hml : c.maxLocals = nL) (hNest : ∀ q ∈ mthTab, ∀ md, methods[q.2.2.1]? = some md → (q.2.1 = 4 ∨ q.2.1 = 5) → va_Nw (.methodLinkNest (oR q.1) q.2.2.2.1 (mY md) RX6) s) (hM : ∀ (k : Nat) (md : ac_M) (as : List Value) (h : ac_H) (P : ac_P), methods[k]? = some md → call k as h P → xMet l D cA A GB F Lc md as h P)
    {kd k j i9 : Nat} {md : ac_M} (hq : (own, kd, k, j, i9) ∈ mthTab) (hmd : methods[k]? = some md) {as rest st0 : List Value} {P : ac_P} {H : Heap} {locs : List Loc} {la : Array Slot} (hc : call k as h P) (hR : xRel D cA A h H) (hS : va_S A s.heap H locs) (hla : la.size = nL) (hst : st0 = as.reverse ++ rest) (hlen : as.length = mN md + (if kd = 1 ∨ kd = 4 ∨ kd = 6 then 0 else 1)) (hrl : rest.length ≤ 4) (hbb : bgle (bgad bg (mB md)) mb)
    (hsp : (kd = 2 ∨ kd = 5) → ∃ b As, as = .ref b :: As)
    (hrc : kd = 0 → ∃ ci, isO h as.head? ci ∧ oR ci = (mY md).cls ∧ ci < 8)
    (hd : (kd = 0 ∧ decode cc pc = .ok (.invokevirtual j, 3)) ∨ ((kd = 1 ∨ kd = 4 ∨ kd = 6) ∧ decode cc pc = .ok (.invokestatic j, 3)) ∨ ((kd = 2 ∨ kd = 5) ∧ decode cc pc = .ok (.invokespecial j, 3))) :
    vx_Run p l e R s m args below meth c H locs bg.1 bg.2 (mB md).1 (mB md).2 (F0 m pc la st0) rest (QcP D cA A P as.toArray) (XcP D cA A P) A := by
  have hmem : md ∈ methods := List.mem_of_getElem? hmd
  obtain ⟨md2, hmd2, w1, w2, w3, w4⟩ := mth_at hq
  cases Option.some.inj (hmd.symm.trans hmd2)
  have w1 : ¬ (kd = 4 ∨ kd = 5) → Cond.methodLink (oR own) j (mY md) ∈ WG := w1
  have w2 : kd = 4 → mK md = 1 := w2
  have w3 : kd = 5 → mK md = 2 := w3
  have w4 : ¬ (kd = 4 ∨ kd = 5) → mK md = kd := w4
  obtain ⟨f1, f2, f3, f4, f5, f6, f7, f8, f9, f10, f11⟩ := mFacts_of hmem
  have hMet := hM k md as h P hmd hc
  have hfc : bg.1 + (mB md).1 ≤ R.cells ∧ bg.2 + (mB md).2 ≤ R.slots := ⟨Nat.le_trans hbb.1 hRC.1, Nat.le_trans hbb.2 hRC.2⟩
  have hcs := catsum rest
  have hro : 2 * (F0 m pc la st0).monitorRoom + (rest.map fun v => v.category).sum ≤ 8 := by show 2 * 0 + _ ≤ 8; omega
  have hrr : (rmK F Lc md).frames + 1 ≤ R.frames ∧ 8 + (mL md + 11) + (rmK F Lc md).locals ≤ R.locals := ⟨hRm.1, hRm.2 md hmem⟩
  have hFix : CallFix p m c cc nL s args WG (oR own) := ⟨hx, hb, hml, hown, hts⟩
  have hblind : FrameBlind (va_Pc as (fun U => GB U ∧ xRel D cA A h U.heap)) := fun a U g mk q => ⟨q.1, hGBb a U g mk q.2.1, q.2.2⟩
  have hPre : ∀ U : State, U.heap = H → s.WarmedH U.vm → va_Pc as (fun U => GB U ∧ xRel D cA A h U.heap) as.toArray U := fun U hU hW => ⟨rfl, hGB H locs U hS hU hW, by rw [hU]; exact hR⟩
  have hgood : GoodIn WG (wsK md) := good_WG (wsK_WG ⟨f1, f2, f3, f4, f5, f6, f7, f8, f9, f10, f11⟩)
  subst hst
  rcases hd with ⟨rfl, hd⟩ | ⟨hkd, hd⟩ | ⟨hkd, hd⟩
  · have hk0 : mK md = 0 := w4 (by omega)
    have hT0 : mT md = [] := f10 (by omega)
    have hw : wsK md = Cond.code (mY md) (mC md) (mL md) (mR md) :: WG := by unfold wsK; rw [if_pos hT0]
    obtain ⟨ci, hio, hcn, hc8⟩ := hrc rfl
    obtain ⟨b, As, fs, rfl, hfs⟩ := isO_head hio
    · have hl1 : As.length = mN md := by rw [if_neg (by omega), List.length_cons] at hlen; omega
      obtain ⟨dom, hd1, hP9, hD9⟩ := id hR
      obtain ⟨i, hi⟩ := xRel.at (D := D) (cA := cA) (A := A) (H := H) hd1 hfs
      obtain ⟨C, T, N, ty, c1, c2, -⟩ := clAll hc8
      have hrecv := va_recv hK hP9 (ci := ci) (q0 := i) (fs := fs) c1 (by rw [cwK_at hi, hfs]; rfl)
      have hcw : CallW R s args (oR own) (mY md).cls j (mY md) (mC md) (mL md) (mR md) (wsK md) (rmK F Lc md) (mB md).1 (mB md).2 (mN md) := ⟨callB_of (mN md) hts hgood hw rfl rfl (hts _ f3) (hts _ (w1 (by omega))) f2 hrr, hts _ (f7 (by omega)), hts _ (f8 hk0)⟩
      exact vx_runV (b := b) (As := As) (rest := rest) hFix hMet hcw ⟨hblind, by rw [← hcn, ← c2]; exact hrecv, hPre⟩ rfl hl1 hla (by simp) hro hd hfc
  · rcases hkd with rfl | rfl | rfl
    · have hk0 : mK md = 1 := w4 (by omega)
      have hT0 : mT md = [] := f10 (by omega)
      have hw : wsK md = Cond.code (mY md) (mC md) (mL md) (mR md) :: WG := by unfold wsK; rw [if_pos hT0]
      exact vx_runS (As := as) (rest := rest) hFix hMet ⟨callB_of (mN md) hts hgood hw rfl rfl (hts _ f3) (hts _ (w1 (by omega))) f2 hrr, hts _ (f6 (Or.inl hk0))⟩ ⟨hblind, hPre⟩ rfl (by simpa using hlen) hla rfl hro hd hfc
    · have hk0 : mK md = 1 := w2 rfl
      have hT0 : mT md = [] := f10 (by omega)
      have hw : wsK md = Cond.code (mY md) (mC md) (mL md) (mR md) :: WG := by unfold wsK; rw [if_pos hT0]
      exact vx_runSN (host := RX6) (As := as) (rest := rest) hFix hMet ⟨va_cnB (mN md) hts hgood hw rfl rfl (hNest _ hq md hmd (Or.inl rfl)) (hts _ f3) f2 hrr, hts _ (f6 (Or.inl hk0)), trivial⟩ ⟨hblind, hPre⟩ rfl (by simpa using hlen) hla rfl hro hd hfc
    · have hk0 : mK md = 6 := w4 (by omega)
      by_cases hT0 : mT md = []
      · have hw : wsK md = Cond.code (mY md) (mC md) (mL md) (mR md) :: WG := by unfold wsK; rw [if_pos hT0]
        exact vx_runS (As := as) (rest := rest) hFix hMet ⟨callB_of (mN md) hts hgood hw rfl rfl (hts _ f3) (hts _ (w1 (by omega))) f2 hrr, hts _ (f6 (Or.inr hk0))⟩ ⟨hblind, hPre⟩ rfl (by simpa using hlen) hla rfl hro hd hfc
      · have hw : wsK md = Cond.codeWith (mY md) (mC md) (mL md) (mR md) (mT md) :: WG := by unfold wsK; rw [if_neg hT0]
        exact vx_runSX (hh := mT md) (As := as) (rest := rest) hFix hMet (vx_cwSW (mN md) hts (good_WG (fun w hw9 => by
          rcases List.mem_append.mp hw9 with h9 | h9
          · simp only [List.mem_cons, List.not_mem_nil, or_false] at h9
            rcases h9 with rfl | rfl | rfl
            · exact w1 (by omega)
            · exact f6 (Or.inr hk0)
            · exact f3
          · exact (hgood w h9).1)) hw rfl rfl f2 hrr) ⟨hblind, hPre⟩ rfl (by simpa using hlen) hla rfl hro hd hfc
  · rcases hkd with rfl | rfl
    · have hk0 : mK md = 2 := w4 (by omega)
      have hT0 : mT md = [] := f10 (by omega)
      have hw : wsK md = Cond.code (mY md) (mC md) (mL md) none :: WG := by unfold wsK; rw [if_pos hT0, (f9 hk0).2]
      obtain ⟨b, As, rfl⟩ := hsp (Or.inl rfl)
      exact vx_runI (b := b) (As := As) (rest := rest) hFix hMet ⟨callB_of (mN md) hts hgood hw rfl rfl (hts _ f3) (hts _ (w1 (by omega))) f2 hrr, (f9 hk0).1, hts _ (f7 (by omega))⟩ ⟨hblind, hPre⟩ rfl (by simpa using hlen) hla (by simp) hro hd hfc
    · have hk0 : mK md = 2 := w3 rfl
      have hT0 : mT md = [] := f10 (by omega)
      have hw : wsK md = Cond.code (mY md) (mC md) (mL md) none :: WG := by unfold wsK; rw [if_pos hT0, (f9 hk0).2]
      obtain ⟨b, As, rfl⟩ := hsp (Or.inr rfl)
      exact vx_runIN (host := RX6) (b := b) (As := As) (rest := rest) hFix hMet ⟨va_cnB (mN md) hts hgood hw rfl rfl (hNest _ hq md hmd (Or.inr rfl)) (hts _ f3) f2 hrr, (f9 hk0).1, hts _ (f7 (by omega))⟩ ⟨hblind, hPre⟩ rfl (by simpa using hlen) hla (by simp) hro hd hfc
end SNV
end
section
/-! ===== the call instructions ===== -/
theorem inf_at {k : Nat} {md : ac_M} (h : methods[k]? = some md) : ∃ q, infTab[k]? = some q ∧ q.1 = mN md + (if mK md = 1 ∨ mK md = 6 then 0 else 1) ∧ (mK md = 0 → oR q.2 = (mY md).cls ∧ q.2 < 8) := by
  have hk : k < 297 := by
    have := (List.getElem?_eq_some_iff.mp h).1
    rw [methods_len] at this
    exact this
  have h1 := List.all_eq_true.mp inf_eq k (List.mem_range.mpr hk)
  rw [h] at h1
  cases e : infTab[k]? with
  | none => rw [e] at h1; cases h1
  | some q =>
    rw [e] at h1
    simp only [Bool.and_eq_true, decide_eq_true_eq] at h1
    refine ⟨q, rfl, h1.1, fun h0 => ?_⟩
    have h2 := h1.2
    rw [if_pos h0] at h2
    simpa using h2
section SNW
variable {p : Program} {l : Launch} {e : Env} {R : Room} {s : State} {m : MethodId} {args : Array Value} {below : List Frame} {meth : Method} {c : Code} {Z : State → Prop} {D : va_G} {cA : Nat → ClassId} {A : Nat → Prop}
variable {cc : ByteArray} {own : Nat} {isI : Bool} {tr : Nat} {nL : Nat} {sp : List Nat}
variable {call : Nat → List Value → ac_H → ac_P → Prop} {cs : Nat → Nat × Nat} {ga : Nat → Nat} {L : Nat} {xs : Nat → Int32} {sl : Nat → List Int32} {mb : Nat × Nat} {hands : List (Nat × Int)} {rt : Option FieldType} {Q : ac_P} {J : Nat → ac_X}
variable {is : ac_I} {ls : ac_L} {st : List Value} {h : ac_H} {bg : Nat × Nat} {pc n : Nat}

theorem s_multianewarray (hx : p.tables.exec = Jvm.exec) (hb : c.code = cc) (hts : ∀ w ∈ WG, w.before args s = true) (hown : s.vm.findClass (oR own) = some m.cls) (hK : va_K D vwCl (tysK cA) s) {GB : State → Prop} {F Lc : Nat} (hGB : ∀ (H : Heap) (locs : List Loc) (U : State), va_S A s.heap H locs → U.heap = H → s.WarmedH U.vm → GB U) (hGBb : ∀ (a : Array Value) (U : State) (g : JFrame) (mk : MethodId), GB U → GB (U.calling g mk a)) (hRm : F + 1 ≤ R.frames ∧ ∀ md ∈ methods, 8 + (mL md + 11) + Lc ≤ R.locals) (hRC : mb.1 ≤ R.cells ∧ mb.2 ≤ R.slots) (hml : c.maxLocals = nL) (hNest : ∀ q ∈ mthTab, ∀ md, methods[q.2.2.1]? = some md → (q.2.1 = 4 ∨ q.2.1 = 5) → va_Nw (.methodLinkNest (oR q.1) q.2.2.2.1 (mY md) RX6) s) (hM : ∀ (k : Nat) (md : ac_M) (as : List Value) (h : ac_H) (P : ac_P), methods[k]? = some md → call k as h P → xMet l D cA A GB F Lc md as h P) (hThr : ∀ (k pc : Nat) (h : ac_H) (bg : Nat × Nat) (H : Heap) (locs : List Loc) (la : Array Slot) (rest : List Value) (q : Addr) (ce : Cell), k < 4 → (tr = 0 ∨ pc < tr) → (match hands.lookup k with | some c9 => Q (.inl (some (.int (kI c9)))) h | none => Q (.inr k) h) → xRel D cA A h H → va_S A s.heap H locs → bgle bg mb → lv_has la nL [] → H[q]? = some ce → ce.vm = .none → s.vm.findClass (exN k) = some ce.cls → vx_W p l e R s m args below meth c H locs bg.1 bg.2 Z (F0 m pc la rest) q) {k d : Nat} (ih : ∀ (pc : Nat) (ls : ac_L) (st : List Value) (h : ac_H) (bg : Nat × Nat), rowOK own isI tr nL sp cc pc is = true → xB call cst ga L xs sl mb hands rt Q J is ls st h bg → xR p l e R s m args below meth c Z D cA A nL mb pc ls st h bg) (hrow : rowOK own isI tr nL sp cc pc ((.multianewarray k d, n) :: is) = true) (hxb : xB call cst ga L xs sl mb hands rt Q J ((.multianewarray k d, n) :: is) ls st h bg) : xR p l e R s m args below meth c Z D cA A nL mb pc ls st h bg := by
  obtain ⟨ci, hd, hr, hw⟩ := row_step (ai := .multianewarray k d) hrow
  simp only [xB] at hxb
  split at hxb
  · rename_i as s1 hpop
    obtain ⟨hrl, hio, hcall⟩ := hxb
    intro hbg H locs la hR hS hl
    obtain ⟨hal, hst⟩ := popn_as hpop
    simp only [rel] at hr
    split at hr
    · rename_i j
      simp only [Bool.and_eq_true, beq_iff_eq, Bool.or_eq_true, decide_eq_true_eq] at hr
      obtain ⟨⟨⟨⟨rfl, hinf⟩, hz⟩, htr⟩, hany⟩ := hr
      obtain ⟨i9, hq⟩ := any4 hany
      obtain ⟨md, hmd, -, w2, w3, w4⟩ := mth_at hq
      have hmd : methods[k]? = some md := hmd
      have hk0 : mK md = 0 := w4 (by simp)
      obtain ⟨q9, hq9, hn9, hv9⟩ := inf_at hmd
      have e9 : q9 = (d / 16, d % 16) := Option.some.inj (hq9.symm.trans hinf)
      subst e9
      have hB : mB md = (0, 0) := (cst_of hmd).trans (zc_of hz)
      have hrun := inv_run (e := e) (below := below) (meth := meth) (kd := 0) (j := j) (i9 := i9) (md := md) (as := as) (rest := s1) (P := xK Q hands (xB call cst ga L xs sl mb hands rt Q J is) ls s1 bg) (bg := bg) (pc := pc) hx hb hts hown hK (GB := GB) (F := F) (Lc := Lc) hGB hGBb hRm hRC hml hNest hM hq hmd hcall hR hS hl.1 hst (by rw [hal]; rw [if_neg (by omega)] at hn9; simpa using hn9) hrl (by rw [hB]; exact hbg) (fun z => by omega) (fun _ => ⟨d % 16, hio, hv9 hk0⟩) (Or.inl ⟨rfl, hd⟩)
      rw [hB] at hrun
      exact run_go hrun hS rfl hbg hl hw htr ih hThr
    · cases hr
  · exact hxb.elim
theorem s_putstatic (hx : p.tables.exec = Jvm.exec) (hb : c.code = cc) (hts : ∀ w ∈ WG, w.before args s = true) (hown : s.vm.findClass (oR own) = some m.cls) (hK : va_K D vwCl (tysK cA) s) {GB : State → Prop} {F Lc : Nat} (hGB : ∀ (H : Heap) (locs : List Loc) (U : State), va_S A s.heap H locs → U.heap = H → s.WarmedH U.vm → GB U) (hGBb : ∀ (a : Array Value) (U : State) (g : JFrame) (mk : MethodId), GB U → GB (U.calling g mk a)) (hRm : F + 1 ≤ R.frames ∧ ∀ md ∈ methods, 8 + (mL md + 11) + Lc ≤ R.locals) (hRC : mb.1 ≤ R.cells ∧ mb.2 ≤ R.slots) (hml : c.maxLocals = nL) (hNest : ∀ q ∈ mthTab, ∀ md, methods[q.2.2.1]? = some md → (q.2.1 = 4 ∨ q.2.1 = 5) → va_Nw (.methodLinkNest (oR q.1) q.2.2.2.1 (mY md) RX6) s) (hM : ∀ (k : Nat) (md : ac_M) (as : List Value) (h : ac_H) (P : ac_P), methods[k]? = some md → call k as h P → xMet l D cA A GB F Lc md as h P) (hThr : ∀ (k pc : Nat) (h : ac_H) (bg : Nat × Nat) (H : Heap) (locs : List Loc) (la : Array Slot) (rest : List Value) (q : Addr) (ce : Cell), k < 4 → (tr = 0 ∨ pc < tr) → (match hands.lookup k with | some c9 => Q (.inl (some (.int (kI c9)))) h | none => Q (.inr k) h) → xRel D cA A h H → va_S A s.heap H locs → bgle bg mb → lv_has la nL [] → H[q]? = some ce → ce.vm = .none → s.vm.findClass (exN k) = some ce.cls → vx_W p l e R s m args below meth c H locs bg.1 bg.2 Z (F0 m pc la rest) q) {k : Nat} (ih : ∀ (pc : Nat) (ls : ac_L) (st : List Value) (h : ac_H) (bg : Nat × Nat), rowOK own isI tr nL sp cc pc is = true → xB call cst ga L xs sl mb hands rt Q J is ls st h bg → xR p l e R s m args below meth c Z D cA A nL mb pc ls st h bg) (hrow : rowOK own isI tr nL sp cc pc ((.putstatic k, n) :: is) = true) (hxb : xB call cst ga L xs sl mb hands rt Q J ((.putstatic k, n) :: is) ls st h bg) : xR p l e R s m args below meth c Z D cA A nL mb pc ls st h bg := by
  obtain ⟨ci, hd, hr, hw⟩ := row_step (ai := .putstatic k) hrow
  simp only [xB] at hxb
  split at hxb
  · rename_i as s1 hpop
    obtain ⟨hrl, hio, hbb, hcall⟩ := hxb
    intro hbg H locs la hR hS hl
    obtain ⟨hal, hst⟩ := popn_as hpop
    simp only [rel] at hr
    split at hr
    · rename_i j
      simp only [Bool.and_eq_true, beq_iff_eq, Bool.or_eq_true, decide_eq_true_eq] at hr
      obtain ⟨⟨⟨rfl, hinf⟩, htr⟩, hany⟩ := hr
      obtain ⟨i9, hq⟩ := any4 hany
      obtain ⟨md, hmd, -, w2, w3, w4⟩ := mth_at hq
      have hmd : methods[k / 256]? = some md := hmd
      have hk0 : mK md = 0 := w4 (by simp)
      obtain ⟨q9, hq9, hn9, hv9⟩ := inf_at hmd
      have e9 : q9 = (k / 16 % 16, k % 16) := Option.some.inj (hq9.symm.trans hinf)
      subst e9
      have hB : mB md = cst (k / 256) := cst_of hmd
      have hrun := inv_run (e := e) (below := below) (meth := meth) (kd := 0) (j := j) (i9 := i9) (md := md) (as := as) (rest := s1) (P := xK Q hands (xB call cst ga L xs sl mb hands rt Q J is) ls s1 (bgad bg (cst (k / 256)))) (bg := bg) (pc := pc) hx hb hts hown hK (GB := GB) (F := F) (Lc := Lc) hGB hGBb hRm hRC hml hNest hM hq hmd hcall hR hS hl.1 hst (by rw [hal]; rw [if_neg (by omega)] at hn9; simpa using hn9) hrl (by rw [hB]; exact hbb) (fun z => by omega) (fun _ => ⟨k % 16, hio, hv9 hk0⟩) (Or.inl ⟨rfl, hd⟩)
      rw [hB] at hrun
      exact run_go hrun hS rfl hbb hl hw htr ih hThr
    · cases hr
  · exact hxb.elim
theorem s_invokeinterface (hx : p.tables.exec = Jvm.exec) (hb : c.code = cc) (hts : ∀ w ∈ WG, w.before args s = true) (hown : s.vm.findClass (oR own) = some m.cls) (hK : va_K D vwCl (tysK cA) s) {GB : State → Prop} {F Lc : Nat} (hGB : ∀ (H : Heap) (locs : List Loc) (U : State), va_S A s.heap H locs → U.heap = H → s.WarmedH U.vm → GB U) (hGBb : ∀ (a : Array Value) (U : State) (g : JFrame) (mk : MethodId), GB U → GB (U.calling g mk a)) (hRm : F + 1 ≤ R.frames ∧ ∀ md ∈ methods, 8 + (mL md + 11) + Lc ≤ R.locals) (hRC : mb.1 ≤ R.cells ∧ mb.2 ≤ R.slots) (hml : c.maxLocals = nL) (hNest : ∀ q ∈ mthTab, ∀ md, methods[q.2.2.1]? = some md → (q.2.1 = 4 ∨ q.2.1 = 5) → va_Nw (.methodLinkNest (oR q.1) q.2.2.2.1 (mY md) RX6) s) (hM : ∀ (k : Nat) (md : ac_M) (as : List Value) (h : ac_H) (P : ac_P), methods[k]? = some md → call k as h P → xMet l D cA A GB F Lc md as h P) (hThr : ∀ (k pc : Nat) (h : ac_H) (bg : Nat × Nat) (H : Heap) (locs : List Loc) (la : Array Slot) (rest : List Value) (q : Addr) (ce : Cell), k < 4 → (tr = 0 ∨ pc < tr) → (match hands.lookup k with | some c9 => Q (.inl (some (.int (kI c9)))) h | none => Q (.inr k) h) → xRel D cA A h H → va_S A s.heap H locs → bgle bg mb → lv_has la nL [] → H[q]? = some ce → ce.vm = .none → s.vm.findClass (exN k) = some ce.cls → vx_W p l e R s m args below meth c H locs bg.1 bg.2 Z (F0 m pc la rest) q) {k d : Nat} (ih : ∀ (pc : Nat) (ls : ac_L) (st : List Value) (h : ac_H) (bg : Nat × Nat), rowOK own isI tr nL sp cc pc is = true → xB call cst ga L xs sl mb hands rt Q J is ls st h bg → xR p l e R s m args below meth c Z D cA A nL mb pc ls st h bg) (hrow : rowOK own isI tr nL sp cc pc ((.invokeinterface k d, n) :: is) = true) (hxb : xB call cst ga L xs sl mb hands rt Q J ((.invokeinterface k d, n) :: is) ls st h bg) : xR p l e R s m args below meth c Z D cA A nL mb pc ls st h bg := by
  obtain ⟨ci, hd, hr, hw⟩ := row_step (ai := .invokeinterface k d) hrow
  simp only [xB] at hxb
  split at hxb
  · rename_i as s1 hpop
    obtain ⟨hrl, hcall⟩ := hxb
    intro hbg H locs la hR hS hl
    obtain ⟨hal, hst⟩ := popn_as hpop
    simp only [rel] at hr
    split at hr
    · rename_i j
      simp only [Bool.and_eq_true, beq_iff_eq, decide_eq_true_eq] at hr
      obtain ⟨⟨⟨⟨rfl, hinf⟩, hz⟩, htr⟩, hany⟩ := hr
      simp only [Bool.or_eq_true, beq_iff_eq, decide_eq_true_eq] at htr
      obtain ⟨kd, i9, hkd, hq⟩ := any4o hany
      obtain ⟨md, hmd, -, w2, w3, w4⟩ := mth_at hq
      have hmd : methods[k]? = some md := hmd
      have hk0 : mK md = 1 := by
        rcases hkd with rfl | rfl
        · exact w4 (by simp)
        · exact w2 rfl
      obtain ⟨q9, hq9, hn9, hv9⟩ := inf_at hmd
      rw [hq9] at hinf
      have e9 : q9.1 = d := Option.some.inj hinf
      have hB : mB md = (0, 0) := (cst_of hmd).trans (zc_of hz)
      have hrun := inv_run (e := e) (below := below) (meth := meth) (kd := kd) (j := j) (i9 := i9) (md := md) (as := as) (rest := s1) (P := xK Q hands (xB call cst ga L xs sl mb hands rt Q J is) ls s1 bg) (bg := bg) (pc := pc) hx hb hts hown hK (GB := GB) (F := F) (Lc := Lc) hGB hGBb hRm hRC hml hNest hM hq hmd hcall hR hS hl.1 hst (by rw [hal, ← e9, hn9, if_pos (Or.inl hk0), if_pos (by omega)]) hrl (by rw [hB]; exact hbg) (fun z => by omega) (fun z => by omega) (Or.inr (Or.inl ⟨by omega, hd⟩))
      rw [hB] at hrun
      exact run_go hrun hS rfl hbg hl hw htr ih hThr
    · cases hr
  · exact hxb.elim
theorem s_ret (hx : p.tables.exec = Jvm.exec) (hb : c.code = cc) (hts : ∀ w ∈ WG, w.before args s = true) (hown : s.vm.findClass (oR own) = some m.cls) (hK : va_K D vwCl (tysK cA) s) {GB : State → Prop} {F Lc : Nat} (hGB : ∀ (H : Heap) (locs : List Loc) (U : State), va_S A s.heap H locs → U.heap = H → s.WarmedH U.vm → GB U) (hGBb : ∀ (a : Array Value) (U : State) (g : JFrame) (mk : MethodId), GB U → GB (U.calling g mk a)) (hRm : F + 1 ≤ R.frames ∧ ∀ md ∈ methods, 8 + (mL md + 11) + Lc ≤ R.locals) (hRC : mb.1 ≤ R.cells ∧ mb.2 ≤ R.slots) (hml : c.maxLocals = nL) (hNest : ∀ q ∈ mthTab, ∀ md, methods[q.2.2.1]? = some md → (q.2.1 = 4 ∨ q.2.1 = 5) → va_Nw (.methodLinkNest (oR q.1) q.2.2.2.1 (mY md) RX6) s) (hM : ∀ (k : Nat) (md : ac_M) (as : List Value) (h : ac_H) (P : ac_P), methods[k]? = some md → call k as h P → xMet l D cA A GB F Lc md as h P) (hThr : ∀ (k pc : Nat) (h : ac_H) (bg : Nat × Nat) (H : Heap) (locs : List Loc) (la : Array Slot) (rest : List Value) (q : Addr) (ce : Cell), k < 4 → (tr = 0 ∨ pc < tr) → (match hands.lookup k with | some c9 => Q (.inl (some (.int (kI c9)))) h | none => Q (.inr k) h) → xRel D cA A h H → va_S A s.heap H locs → bgle bg mb → lv_has la nL [] → H[q]? = some ce → ce.vm = .none → s.vm.findClass (exN k) = some ce.cls → vx_W p l e R s m args below meth c H locs bg.1 bg.2 Z (F0 m pc la rest) q) {k : Nat} (ih : ∀ (pc : Nat) (ls : ac_L) (st : List Value) (h : ac_H) (bg : Nat × Nat), rowOK own isI tr nL sp cc pc is = true → xB call cst ga L xs sl mb hands rt Q J is ls st h bg → xR p l e R s m args below meth c Z D cA A nL mb pc ls st h bg) (hrow : rowOK own isI tr nL sp cc pc ((.ret k, n) :: is) = true) (hxb : xB call cst ga L xs sl mb hands rt Q J ((.ret k, n) :: is) ls st h bg) : xR p l e R s m args below meth c Z D cA A nL mb pc ls st h bg := by
  obtain ⟨ci, hd, hr, hw⟩ := row_step (ai := .ret k) hrow
  simp only [xB] at hxb
  split at hxb
  · rename_i as s1 hpop
    obtain ⟨hrl, hbb, hcall⟩ := hxb
    intro hbg H locs la hR hS hl
    obtain ⟨hal, hst⟩ := popn_as hpop
    simp only [rel] at hr
    split at hr
    · rename_i j
      simp only [Bool.and_eq_true, beq_iff_eq, decide_eq_true_eq] at hr
      obtain ⟨⟨⟨rfl, hinf⟩, htr⟩, hany⟩ := hr
      simp only [Bool.or_eq_true, beq_iff_eq, decide_eq_true_eq] at htr
      obtain ⟨kd, i9, hkd, hq⟩ := any4o hany
      obtain ⟨md, hmd, -, w2, w3, w4⟩ := mth_at hq
      have hmd : methods[k / 16]? = some md := hmd
      have hk0 : mK md = kd := w4 (by rcases hkd with rfl | rfl <;> simp)
      obtain ⟨q9, hq9, hn9, hv9⟩ := inf_at hmd
      rw [hq9] at hinf
      have e9 : q9.1 = k % 16 := Option.some.inj hinf
      have hB : mB md = cst (k / 16) := cst_of hmd
      have hrun := inv_run (e := e) (below := below) (meth := meth) (kd := kd) (j := j) (i9 := i9) (md := md) (as := as) (rest := s1) (P := xK Q hands (xB call cst ga L xs sl mb hands rt Q J is) ls s1 (bgad bg (cst (k / 16)))) (bg := bg) (pc := pc) hx hb hts hown hK (GB := GB) (F := F) (Lc := Lc) hGB hGBb hRm hRC hml hNest hM hq hmd hcall hR hS hl.1 hst (by rw [hal, ← e9, hn9, if_pos (by omega), if_pos (by omega)]) hrl (by rw [hB]; exact hbb) (fun z => by omega) (fun z => by omega) (Or.inr (Or.inl ⟨by omega, hd⟩))
      rw [hB] at hrun
      exact run_go hrun hS rfl hbb hl hw htr ih hThr
    · cases hr
  · exact hxb.elim
theorem s_dload (hx : p.tables.exec = Jvm.exec) (hb : c.code = cc) (hts : ∀ w ∈ WG, w.before args s = true) (hown : s.vm.findClass (oR own) = some m.cls) (hK : va_K D vwCl (tysK cA) s) {GB : State → Prop} {F Lc : Nat} (hGB : ∀ (H : Heap) (locs : List Loc) (U : State), va_S A s.heap H locs → U.heap = H → s.WarmedH U.vm → GB U) (hGBb : ∀ (a : Array Value) (U : State) (g : JFrame) (mk : MethodId), GB U → GB (U.calling g mk a)) (hRm : F + 1 ≤ R.frames ∧ ∀ md ∈ methods, 8 + (mL md + 11) + Lc ≤ R.locals) (hRC : mb.1 ≤ R.cells ∧ mb.2 ≤ R.slots) (hml : c.maxLocals = nL) (hNest : ∀ q ∈ mthTab, ∀ md, methods[q.2.2.1]? = some md → (q.2.1 = 4 ∨ q.2.1 = 5) → va_Nw (.methodLinkNest (oR q.1) q.2.2.2.1 (mY md) RX6) s) (hM : ∀ (k : Nat) (md : ac_M) (as : List Value) (h : ac_H) (P : ac_P), methods[k]? = some md → call k as h P → xMet l D cA A GB F Lc md as h P) (hThr : ∀ (k pc : Nat) (h : ac_H) (bg : Nat × Nat) (H : Heap) (locs : List Loc) (la : Array Slot) (rest : List Value) (q : Addr) (ce : Cell), k < 4 → (tr = 0 ∨ pc < tr) → (match hands.lookup k with | some c9 => Q (.inl (some (.int (kI c9)))) h | none => Q (.inr k) h) → xRel D cA A h H → va_S A s.heap H locs → bgle bg mb → lv_has la nL [] → H[q]? = some ce → ce.vm = .none → s.vm.findClass (exN k) = some ce.cls → vx_W p l e R s m args below meth c H locs bg.1 bg.2 Z (F0 m pc la rest) q) {k : Nat} (ih : ∀ (pc : Nat) (ls : ac_L) (st : List Value) (h : ac_H) (bg : Nat × Nat), rowOK own isI tr nL sp cc pc is = true → xB call cst ga L xs sl mb hands rt Q J is ls st h bg → xR p l e R s m args below meth c Z D cA A nL mb pc ls st h bg) (hrow : rowOK own isI tr nL sp cc pc ((.dload k, n) :: is) = true) (hxb : xB call cst ga L xs sl mb hands rt Q J ((.dload k, n) :: is) ls st h bg) : xR p l e R s m args below meth c Z D cA A nL mb pc ls st h bg := by
  obtain ⟨ci, hd, hr, hw⟩ := row_step (ai := .dload k) hrow
  simp only [xB] at hxb
  split at hxb
  · rename_i a0 as s1 hpop
    obtain ⟨hrl, hbb, hcall⟩ := hxb
    intro hbg H locs la hR hS hl
    obtain ⟨hal, hst⟩ := popn_as hpop
    simp only [rel] at hr
    split at hr
    · rename_i j
      simp only [Bool.and_eq_true, beq_iff_eq, decide_eq_true_eq] at hr
      obtain ⟨⟨⟨rfl, hinf⟩, htr⟩, hany⟩ := hr
      simp only [Bool.or_eq_true, beq_iff_eq, decide_eq_true_eq] at htr
      obtain ⟨kd, i9, hkd, hq⟩ := any4o hany
      obtain ⟨md, hmd, -, w2, w3, w4⟩ := mth_at hq
      have hmd : methods[k / 16]? = some md := hmd
      have hk0 : mK md = 2 := by
        rcases hkd with rfl | rfl
        · exact w4 (by simp)
        · exact w3 rfl
      obtain ⟨q9, hq9, hn9, hv9⟩ := inf_at hmd
      rw [hq9] at hinf
      have e9 : q9.1 = k % 16 := Option.some.inj hinf
      have hB : mB md = cst (k / 16) := cst_of hmd
      have hrun := inv_run (e := e) (below := below) (meth := meth) (kd := kd) (j := j) (i9 := i9) (md := md) (as := .ref a0 :: as) (rest := s1) (P := xK Q hands (xB call cst ga L xs sl mb hands rt Q J is) ls s1 (bgad bg (cst (k / 16)))) (bg := bg) (pc := pc) hx hb hts hown hK (GB := GB) (F := F) (Lc := Lc) hGB hGBb hRm hRC hml hNest hM hq hmd hcall hR hS hl.1 hst (by rw [hal, ← e9, hn9, if_neg (by omega), if_neg (by omega)]) hrl (by rw [hB]; exact hbb) (fun _ => ⟨a0, as, rfl⟩) (fun z => by omega) (Or.inr (Or.inr ⟨by omega, hd⟩))
      rw [hB] at hrun
      exact run_go hrun hS rfl hbb hl hw htr ih hThr
    · cases hr
  · exact hxb.elim
end SNW
end
section
/-! ===== String constants: length() and charAt(k) ===== -/
theorem dJ0_length_8abf5_0 : decode cJ0_length_8abf5 0 = .ok (.aload_n 0, 1) := by decide +kernel
theorem dJ0_length_8abf5_1 : decode cJ0_length_8abf5 1 = .ok (.getfield 9, 3) := by decide +kernel
theorem dJ0_length_8abf5_4 : decode cJ0_length_8abf5 4 = .ok (.arraylength, 1) := by decide +kernel
theorem dJ0_length_8abf5_5 : decode cJ0_length_8abf5 5 = .ok (.aload_n 0, 1) := by decide +kernel
theorem dJ0_length_8abf5_6 : decode cJ0_length_8abf5 6 = .ok (.invokevirtual 335, 3) := by decide +kernel
theorem dJ0_length_8abf5_9 : decode cJ0_length_8abf5 9 = .ok (.ishr, 1) := by decide +kernel
theorem dJ0_length_8abf5_10 : decode cJ0_length_8abf5 10 = .ok (.ireturn, 1) := by decide +kernel
theorem dJ0_charAt_5068e_0 : decode cJ0_charAt_5068e 0 = .ok (.aload_n 0, 1) := by decide +kernel
theorem dJ0_charAt_5068e_1 : decode cJ0_charAt_5068e 1 = .ok (.invokevirtual 492, 3) := by decide +kernel
theorem dJ0_charAt_5068e_4 : decode cJ0_charAt_5068e 4 = .ok (.ifCond .eq 12, 3) := by decide +kernel
theorem dJ0_charAt_5068e_7 : decode cJ0_charAt_5068e 7 = .ok (.aload_n 0, 1) := by decide +kernel
theorem dJ0_charAt_5068e_8 : decode cJ0_charAt_5068e 8 = .ok (.getfield 9, 3) := by decide +kernel
theorem dJ0_charAt_5068e_11 : decode cJ0_charAt_5068e 11 = .ok (.iload_n 1, 1) := by decide +kernel
theorem dJ0_charAt_5068e_12 : decode cJ0_charAt_5068e 12 = .ok (.invokestatic 495, 3) := by decide +kernel
theorem dJ0_charAt_5068e_15 : decode cJ0_charAt_5068e 15 = .ok (.ireturn, 1) := by decide +kernel
theorem dJ0_coder_7d493_0 : decode cJ0_coder_7d493 0 = .ok (.getstatic 38, 3) := by decide +kernel
theorem dJ0_coder_7d493_3 : decode cJ0_coder_7d493 3 = .ok (.ifCond .eq 10, 3) := by decide +kernel
theorem dJ0_coder_7d493_6 : decode cJ0_coder_7d493 6 = .ok (.aload_n 0, 1) := by decide +kernel
theorem dJ0_coder_7d493_7 : decode cJ0_coder_7d493 7 = .ok (.getfield 15, 3) := by decide +kernel
theorem dJ0_coder_7d493_10 : decode cJ0_coder_7d493 10 = .ok (.goto 4, 3) := by decide +kernel
theorem dJ0_coder_7d493_13 : decode cJ0_coder_7d493 13 = .ok (.iconst 1, 1) := by decide +kernel
theorem dJ0_coder_7d493_14 : decode cJ0_coder_7d493 14 = .ok (.ireturn, 1) := by decide +kernel
theorem dJ0_isLatin1_aae02_0 : decode cJ0_isLatin1_aae02 0 = .ok (.getstatic 38, 3) := by decide +kernel
theorem dJ0_isLatin1_aae02_3 : decode cJ0_isLatin1_aae02 3 = .ok (.ifCond .eq 14, 3) := by decide +kernel
theorem dJ0_isLatin1_aae02_6 : decode cJ0_isLatin1_aae02 6 = .ok (.aload_n 0, 1) := by decide +kernel
theorem dJ0_isLatin1_aae02_7 : decode cJ0_isLatin1_aae02 7 = .ok (.getfield 15, 3) := by decide +kernel
theorem dJ0_isLatin1_aae02_10 : decode cJ0_isLatin1_aae02 10 = .ok (.ifCond .ne 7, 3) := by decide +kernel
theorem dJ0_isLatin1_aae02_13 : decode cJ0_isLatin1_aae02 13 = .ok (.iconst 1, 1) := by decide +kernel
theorem dJ0_isLatin1_aae02_14 : decode cJ0_isLatin1_aae02 14 = .ok (.goto 4, 3) := by decide +kernel
theorem dJ0_isLatin1_aae02_17 : decode cJ0_isLatin1_aae02 17 = .ok (.iconst 0, 1) := by decide +kernel
theorem dJ0_isLatin1_aae02_18 : decode cJ0_isLatin1_aae02 18 = .ok (.ireturn, 1) := by decide +kernel
theorem dJ0_checkIndex_df160_0 : decode cJ0_checkIndex_df160 0 = .ok (.iload_n 0, 1) := by decide +kernel
theorem dJ0_checkIndex_df160_1 : decode cJ0_checkIndex_df160 1 = .ok (.iload_n 1, 1) := by decide +kernel
theorem dJ0_checkIndex_df160_2 : decode cJ0_checkIndex_df160 2 = .ok (.getstatic 1053, 3) := by decide +kernel
theorem dJ0_checkIndex_df160_5 : decode cJ0_checkIndex_df160 5 = .ok (.invokestatic 1059, 3) := by decide +kernel
theorem dJ0_checkIndex_df160_8 : decode cJ0_checkIndex_df160 8 = .ok (.pop, 1) := by decide +kernel
theorem dJ0_checkIndex_df160_9 : decode cJ0_checkIndex_df160 9 = .ok (.return_, 1) := by decide +kernel
theorem dJ1_charAt_3b067_0 : decode cJ1_charAt_3b067 0 = .ok (.iload_n 1, 1) := by decide +kernel
theorem dJ1_charAt_3b067_1 : decode cJ1_charAt_3b067 1 = .ok (.aload_n 0, 1) := by decide +kernel
theorem dJ1_charAt_3b067_2 : decode cJ1_charAt_3b067 2 = .ok (.arraylength, 1) := by decide +kernel
theorem dJ1_charAt_3b067_3 : decode cJ1_charAt_3b067 3 = .ok (.invokestatic 9, 3) := by decide +kernel
theorem dJ1_charAt_3b067_6 : decode cJ1_charAt_3b067 6 = .ok (.aload_n 0, 1) := by decide +kernel
theorem dJ1_charAt_3b067_7 : decode cJ1_charAt_3b067 7 = .ok (.iload_n 1, 1) := by decide +kernel
theorem dJ1_charAt_3b067_8 : decode cJ1_charAt_3b067 8 = .ok (.baload, 1) := by decide +kernel
theorem dJ1_charAt_3b067_9 : decode cJ1_charAt_3b067 9 = .ok (.sipush 255, 3) := by decide +kernel
theorem dJ1_charAt_3b067_12 : decode cJ1_charAt_3b067 12 = .ok (.iand, 1) := by decide +kernel
theorem dJ1_charAt_3b067_13 : decode cJ1_charAt_3b067 13 = .ok (.i2c, 1) := by decide +kernel
theorem dJ1_charAt_3b067_14 : decode cJ1_charAt_3b067 14 = .ok (.ireturn, 1) := by decide +kernel
theorem dJ3_checkIndex_8e157_0 : decode cJ3_checkIndex_8e157 0 = .ok (.iload_n 0, 1) := by decide +kernel
theorem dJ3_checkIndex_8e157_1 : decode cJ3_checkIndex_8e157 1 = .ok (.ifCond .lt 8, 3) := by decide +kernel
theorem dJ3_checkIndex_8e157_4 : decode cJ3_checkIndex_8e157 4 = .ok (.iload_n 0, 1) := by decide +kernel
theorem dJ3_checkIndex_8e157_5 : decode cJ3_checkIndex_8e157 5 = .ok (.iload_n 1, 1) := by decide +kernel
theorem dJ3_checkIndex_8e157_6 : decode cJ3_checkIndex_8e157 6 = .ok (.if_icmp .lt 10, 3) := by decide +kernel
theorem dJ3_checkIndex_8e157_16 : decode cJ3_checkIndex_8e157 16 = .ok (.iload_n 0, 1) := by decide +kernel
theorem dJ3_checkIndex_8e157_17 : decode cJ3_checkIndex_8e157 17 = .ok (.ireturn, 1) := by decide +kernel
set_option maxRecDepth 100000 in
theorem jcJ0_length_8abf5 : Cond.code yJ0_length_8abf5 cJ0_length_8abf5 1 (some .int) ∈ WG := wg_in (i := 608) (by decide +kernel) (by decide +kernel)
set_option maxRecDepth 100000 in
theorem jiJ0_length_8abf5 : Cond.instanceMethod yJ0_length_8abf5 ∈ WG := wg_in (i := 606) (by decide +kernel) (by decide +kernel)
set_option maxRecDepth 100000 in
theorem jlJ0_length_8abf5 : Cond.selects RJ0 yJ0_length_8abf5 yJ0_length_8abf5 ∈ WG := wg_in (i := 607) (by decide +kernel) (by decide +kernel)
set_option maxRecDepth 100000 in
theorem jcJ0_charAt_5068e : Cond.code yJ0_charAt_5068e cJ0_charAt_5068e 2 (some .char) ∈ WG := wg_in (i := 618) (by decide +kernel) (by decide +kernel)
set_option maxRecDepth 100000 in
theorem jiJ0_charAt_5068e : Cond.instanceMethod yJ0_charAt_5068e ∈ WG := wg_in (i := 616) (by decide +kernel) (by decide +kernel)
set_option maxRecDepth 100000 in
theorem jlJ0_charAt_5068e : Cond.selects RJ0 yJ0_charAt_5068e yJ0_charAt_5068e ∈ WG := wg_in (i := 617) (by decide +kernel) (by decide +kernel)
set_option maxRecDepth 100000 in
theorem jcJ0_coder_7d493 : Cond.code yJ0_coder_7d493 cJ0_coder_7d493 1 (some .byte) ∈ WG := wg_in (i := 612) (by decide +kernel) (by decide +kernel)
set_option maxRecDepth 100000 in
theorem jiJ0_coder_7d493 : Cond.instanceMethod yJ0_coder_7d493 ∈ WG := wg_in (i := 610) (by decide +kernel) (by decide +kernel)
set_option maxRecDepth 100000 in
theorem jlJ0_coder_7d493 : Cond.selects RJ0 yJ0_coder_7d493 yJ0_coder_7d493 ∈ WG := wg_in (i := 611) (by decide +kernel) (by decide +kernel)
set_option maxRecDepth 100000 in
theorem jcJ0_isLatin1_aae02 : Cond.code yJ0_isLatin1_aae02 cJ0_isLatin1_aae02 1 (some .boolean) ∈ WG := wg_in (i := 622) (by decide +kernel) (by decide +kernel)
set_option maxRecDepth 100000 in
theorem jiJ0_isLatin1_aae02 : Cond.instanceMethod yJ0_isLatin1_aae02 ∈ WG := wg_in (i := 620) (by decide +kernel) (by decide +kernel)
set_option maxRecDepth 100000 in
theorem jlJ0_isLatin1_aae02 : Cond.selects RJ0 yJ0_isLatin1_aae02 yJ0_isLatin1_aae02 ∈ WG := wg_in (i := 621) (by decide +kernel) (by decide +kernel)
set_option maxRecDepth 100000 in
theorem jcJ0_checkIndex_df160 : Cond.code yJ0_checkIndex_df160 cJ0_checkIndex_df160 2 none ∈ WG := wg_in (i := 628) (by decide +kernel) (by decide +kernel)
set_option maxRecDepth 100000 in
theorem jsJ0_checkIndex_df160 : Cond.static yJ0_checkIndex_df160 ∈ WG := wg_in (i := 627) (by decide +kernel) (by decide +kernel)
set_option maxRecDepth 100000 in
theorem jcJ1_charAt_3b067 : Cond.code yJ1_charAt_3b067 cJ1_charAt_3b067 2 (some .char) ∈ WG := wg_in (i := 625) (by decide +kernel) (by decide +kernel)
set_option maxRecDepth 100000 in
theorem jsJ1_charAt_3b067 : Cond.static yJ1_charAt_3b067 ∈ WG := wg_in (i := 624) (by decide +kernel) (by decide +kernel)
set_option maxRecDepth 100000 in
theorem jcJ3_checkIndex_8e157 : Cond.code yJ3_checkIndex_8e157 cJ3_checkIndex_8e157 3 (some .int) ∈ WG := wg_in (i := 633) (by decide +kernel) (by decide +kernel)
set_option maxRecDepth 100000 in
theorem jsJ3_checkIndex_8e157 : Cond.static yJ3_checkIndex_8e157 ∈ WG := wg_in (i := 632) (by decide +kernel) (by decide +kernel)
set_option maxRecDepth 100000 in
theorem jnJ0 : Cond.initialized RJ0 ∈ WG := wg_in (i := 88) (by decide +kernel) (by decide +kernel)
set_option maxRecDepth 100000 in
theorem jnJ1 : Cond.initialized RJ1 ∈ WG := wg_in (i := 89) (by decide +kernel) (by decide +kernel)
set_option maxRecDepth 100000 in
theorem jnJ3 : Cond.initialized RJ3 ∈ WG := wg_in (i := 90) (by decide +kernel) (by decide +kernel)
set_option maxRecDepth 100000 in
theorem jmJ0_335 : Cond.methodLink RJ0 335 yJ0_coder_7d493 ∈ WG := wg_in (i := 609) (by decide +kernel) (by decide +kernel)
set_option maxRecDepth 100000 in
theorem jmJ0_492 : Cond.methodLink RJ0 492 yJ0_isLatin1_aae02 ∈ WG := wg_in (i := 619) (by decide +kernel) (by decide +kernel)
set_option maxRecDepth 100000 in
theorem jmJ0_495 : Cond.methodLink RJ0 495 yJ1_charAt_3b067 ∈ WG := wg_in (i := 623) (by decide +kernel) (by decide +kernel)
set_option maxRecDepth 100000 in
theorem jmJ1_9 : Cond.methodLink RJ1 9 yJ0_checkIndex_df160 ∈ WG := wg_in (i := 626) (by decide +kernel) (by decide +kernel)
set_option maxRecDepth 100000 in
theorem jmJ0_1059 : Cond.methodLink RJ0 1059 yJ3_checkIndex_8e157 ∈ WG := wg_in (i := 631) (by decide +kernel) (by decide +kernel)
set_option maxRecDepth 100000 in
theorem jmX2_142 : Cond.methodLink RX2 142 yJ0_length_8abf5 ∈ WG := wg_in (i := 605) (by decide +kernel) (by decide +kernel)
set_option maxRecDepth 100000 in
theorem jmX2_146 : Cond.methodLink RX2 146 yJ0_charAt_5068e ∈ WG := wg_in (i := 615) (by decide +kernel) (by decide +kernel)
set_option maxRecDepth 100000 in
theorem jmX7_103 : Cond.methodLink RX7 103 yJ0_length_8abf5 ∈ WG := wg_in (i := 1357) (by decide +kernel) (by decide +kernel)
set_option maxRecDepth 100000 in
theorem jmX7_108 : Cond.methodLink RX7 108 yJ0_charAt_5068e ∈ WG := wg_in (i := 1358) (by decide +kernel) (by decide +kernel)
set_option maxRecDepth 100000 in
theorem jf9 : Cond.fieldLink RJ0 9 "java/lang/String" "value" "[B" ∈ WG := wg_in (i := 1790) (by decide +kernel) (by decide +kernel)
set_option maxRecDepth 100000 in
theorem jf38 : Cond.fieldLink RJ0 38 "java/lang/String" "COMPACT_STRINGS" "Z" ∈ WG := wg_in (i := 613) (by decide +kernel) (by decide +kernel)
set_option maxRecDepth 100000 in
theorem jf15 : Cond.fieldLink RJ0 15 "java/lang/String" "coder" "B" ∈ WG := wg_in (i := 1791) (by decide +kernel) (by decide +kernel)
set_option maxRecDepth 100000 in
theorem jf1053 : Cond.fieldLink RJ0 1053 "jdk/internal/util/Preconditions" "SIOOBE_FORMATTER" "Ljava/util/function/BiFunction;" ∈ WG := wg_in (i := 629) (by decide +kernel) (by decide +kernel)
set_option maxRecDepth 100000 in
theorem sx_ok : ∀ q ∈ sxTab, lw_tbl[q.2.2.2]? = some (.methodLink (oR q.1) q.2.2.1 (if q.2.1 = 0 then yJ0_length_8abf5 else yJ0_charAt_5068e)) := by decide +kernel
def slT : List (List Int32) := [[109, 101, 109, 98, 101, 114], [97, 108, 119, 97, 121, 115], [110, 101, 118, 101, 114], [115, 97, 109, 101], [111, 116, 104, 101, 114], [117, 110, 100, 101, 114], [111, 118, 101, 114], [101, 118, 101, 114, 121], [104, 97, 116, 115], [115, 101, 101, 115], [116, 104, 105, 110, 107], [108, 101, 97, 114, 110, 115], [99, 111, 115, 116], [117, 109, 98, 114, 101, 108, 108, 97], [113, 117, 111, 116, 97], [100, 105, 110, 110, 101, 114], [102, 111, 103]]
def slen : List Nat := [6, 6, 5, 4, 5, 5, 4, 5, 4, 4, 5, 6, 4, 8, 5, 6, 3]
def stx : List String := ["member", "always", "never", "same", "other", "under", "over", "every", "hats", "sees", "think", "learns", "cost", "umbrella", "quota", "dinner", "fog"]
def sl (t : Nat) : List Int32 := slT.getD t []
theorem sl_ok : ∀ t, t < 17 → slen.getD t 0 = (sl t).length ∧ (sl t).length < 100 ∧ ∀ j, j < (sl t).length → (((sl t).getD j 0 &&& 255).toUInt32 % 65536).toInt32 = (sl t).getD j 0 ∧ narrow .char (.int ((sl t).getD j 0)) = .int ((sl t).getD j 0) := by decide +kernel
def SB (A : Nat → Prop) (ga adV : Nat → Nat) (U : State) : Prop := vk_S 17 slen slT (fun i => ga (3 + i)) adV A U U.heap ∧ va_Z "java/lang/String" "COMPACT_STRINGS" "Z" (.int 1) A U U.heap ∧ va_Zq "jdk/internal/util/Preconditions" "SIOOBE_FORMATTER" "Ljava/util/function/BiFunction;" A U U.heap
theorem SB.moved {A : Nat → Prop} {ga adV : Nat → Nat} {s U : State} (h : SB A ga adV s) (hvm : s.vm.Alike U.vm) (hq : ∀ a : Nat, a < s.heap.size → ¬ A a → U.heap[a]? = s.heap[a]?) : SB A ga adV U :=
  ⟨vk_S.kept (vk_S.moved hvm h.1) hq, va_Z.kept (va_Z.moved hvm h.2.1) hq, va_Zq.kept (va_Zq.moved hvm h.2.2) hq⟩
theorem SB.calling {A : Nat → Prop} {ga adV : Nat → Nat} {U : State} {g : JFrame} {mk : MethodId} {a : Array Value} (h : SB A ga adV U) : SB A ga adV (U.calling g mk a) := SB.moved h (Vm.Alike.refl U.vm) (fun _ _ _ => rfl)
theorem jgood {y : MethodName} {cc : ByteArray} {n : Nat} {r : Option FieldType} (h : Cond.code y cc n r ∈ WG) : GoodIn WG (Cond.code y cc n r :: WG) := good_WG (fun w hw => by
  rcases List.mem_cons.mp hw with h1 | h1
  · rw [h1]; exact h
  · exact h1)
def QcVoid : Array Value → State → Outcome → State → Prop := fun _ st o t => o = .returned none ∧ t.heap = st.heap

set_option maxHeartbeats 4000000 in
theorem j_coder (l : Launch) (A : Nat → Prop) (ga adV : Nat → Nat) {t : Nat} (ht : t < 17) (F Lc : Nat) : Met l yJ0_coder_7d493 (Cond.code yJ0_coder_7d493 cJ0_coder_7d493 1 (some .byte) :: WG) { frames := F, cells := 0, slots := 0, locals := Lc } (va_Pc [.ref (ga (3 + t))] (fun U => SB A ga adV U)) (QcRead 0) 0 0 (fun _ => False) := by
  refine Met.ofW (cc := cJ0_coder_7d493) (maxL := 1) (ret := (some .byte)) (by decide) rfl ?_
  intro p e s m args below meth c s₁ B hml hv
  obtain ⟨rfl, hSB⟩ := hv
  have hx := B.exec
  have hb := B.bytes
  have hr := B.returns
  have hts0 := atoms_spec (ws := Cond.code yJ0_coder_7d493 cJ0_coder_7d493 1 (some .byte) :: WG) B.pre
  have hts : ∀ w ∈ WG, w.before _ s = true := fun w h => hts0 w (List.mem_cons_of_mem _ h)
  have hown : s.vm.findClass RJ0 = some m.cls := findClass_of_methodNamed B.named
  have hlocks := B.notSynchronized
  have hS : va_S A s.heap s.heap [] := va_S.rf
  have hl := lv_entry ([.ref (ga (3 + t))]) (n := 1) (Nat.le_of_ble_eq_true rfl)
  rw [lg_entry_eq]
  generalize (lg_sl ([.ref (ga (3 + t))]) ++ List.replicate (1 - (lg_sl ([.ref (ga (3 + t))])).length) Slot.unset).toArray = ls at hl ⊢
  have hl : lv_has ls 1 [(0, .ref (ga (3 + t)))] := hl
  refine va_gets hx hb hSB.2.1 hS hown (hts _ jf38) (fun _ h => h) dJ0_coder_7d493_0 ?_
  refine lv_if_eq (tgt := 13) hx hb dJ0_coder_7d493_3 (by decide) (fun h => absurd h (by decide)) (fun _ => ?_)
  refine lv_aload_n hx hb dJ0_coder_7d493_6 rfl (lv_at hl 0 rfl) ?_
  refine vk_getf hx hb (hSB.1.1 t ht).2.1 hS hown (hts _ jf15) (fun _ h => h) dJ0_coder_7d493_7 ?_
  refine lv_goto (tgt := 14) hx hb dJ0_coder_7d493_10 (by decide) ?_
  exact W.zret hx hb hr rfl (fun t ht hW => ⟨rfl, ht⟩) (fun q h => nomatch h) dJ0_coder_7d493_14
set_option maxHeartbeats 4000000 in
theorem j_latin (l : Launch) (A : Nat → Prop) (ga adV : Nat → Nat) {t : Nat} (ht : t < 17) (F Lc : Nat) : Met l yJ0_isLatin1_aae02 (Cond.code yJ0_isLatin1_aae02 cJ0_isLatin1_aae02 1 (some .boolean) :: WG) { frames := F, cells := 0, slots := 0, locals := Lc } (va_Pc [.ref (ga (3 + t))] (fun U => SB A ga adV U)) (QcRead 1) 0 0 (fun _ => False) := by
  refine Met.ofW (cc := cJ0_isLatin1_aae02) (maxL := 1) (ret := (some .boolean)) (by decide) rfl ?_
  intro p e s m args below meth c s₁ B hml hv
  obtain ⟨rfl, hSB⟩ := hv
  have hx := B.exec
  have hb := B.bytes
  have hr := B.returns
  have hts0 := atoms_spec (ws := Cond.code yJ0_isLatin1_aae02 cJ0_isLatin1_aae02 1 (some .boolean) :: WG) B.pre
  have hts : ∀ w ∈ WG, w.before _ s = true := fun w h => hts0 w (List.mem_cons_of_mem _ h)
  have hown : s.vm.findClass RJ0 = some m.cls := findClass_of_methodNamed B.named
  have hlocks := B.notSynchronized
  have hS : va_S A s.heap s.heap [] := va_S.rf
  have hl := lv_entry ([.ref (ga (3 + t))]) (n := 1) (Nat.le_of_ble_eq_true rfl)
  rw [lg_entry_eq]
  generalize (lg_sl ([.ref (ga (3 + t))]) ++ List.replicate (1 - (lg_sl ([.ref (ga (3 + t))])).length) Slot.unset).toArray = ls at hl ⊢
  have hl : lv_has ls 1 [(0, .ref (ga (3 + t)))] := hl
  refine va_gets hx hb hSB.2.1 hS hown (hts _ jf38) (fun _ h => h) dJ0_isLatin1_aae02_0 ?_
  refine lv_if_eq (tgt := 17) hx hb dJ0_isLatin1_aae02_3 (by decide) (fun h => absurd h (by decide)) (fun _ => ?_)
  refine lv_aload_n hx hb dJ0_isLatin1_aae02_6 rfl (lv_at hl 0 rfl) ?_
  refine vk_getf hx hb (hSB.1.1 t ht).2.1 hS hown (hts _ jf15) (fun _ h => h) dJ0_isLatin1_aae02_7 ?_
  refine lv_if_ne (tgt := 17) hx hb dJ0_isLatin1_aae02_10 (by decide) (fun h => absurd rfl h) (fun _ => ?_)
  refine lv_iconst (v := 1) hx hb dJ0_isLatin1_aae02_13 (by decide) ?_
  refine lv_goto (tgt := 18) hx hb dJ0_isLatin1_aae02_14 (by decide) ?_
  exact W.zret hx hb hr rfl (fun t ht hW => ⟨rfl, ht⟩) (fun q h => nomatch h) dJ0_isLatin1_aae02_18
set_option maxHeartbeats 4000000 in
theorem j_chkN (l : Launch) (A : Nat → Prop) (ga adV : Nat → Nat) {i n : Int32}  (h0 : ¬ i < 0) (h1 : i < n) (F Lc : Nat) : Met l yJ3_checkIndex_8e157 (Cond.code yJ3_checkIndex_8e157 cJ3_checkIndex_8e157 3 (some .int) :: WG) { frames := F, cells := 0, slots := 0, locals := Lc } (va_Pc [.int i, .int n, .null] (fun U => (fun _ => True) U)) (QcRead i) 0 0 (fun _ => False) := by
  refine Met.ofW (cc := cJ3_checkIndex_8e157) (maxL := 3) (ret := (some .int)) (by decide) rfl ?_
  intro p e s m args below meth c s₁ B hml hv
  obtain ⟨rfl, hSB⟩ := hv
  have hx := B.exec
  have hb := B.bytes
  have hr := B.returns
  have hts0 := atoms_spec (ws := Cond.code yJ3_checkIndex_8e157 cJ3_checkIndex_8e157 3 (some .int) :: WG) B.pre
  have hts : ∀ w ∈ WG, w.before _ s = true := fun w h => hts0 w (List.mem_cons_of_mem _ h)
  have hown : s.vm.findClass RJ3 = some m.cls := findClass_of_methodNamed B.named
  have hlocks := B.notSynchronized
  have hS : va_S A s.heap s.heap [] := va_S.rf
  have hl := lv_entry ([.int i, .int n, .null]) (n := 3) (Nat.le_of_ble_eq_true rfl)
  rw [lg_entry_eq]
  generalize (lg_sl ([.int i, .int n, .null]) ++ List.replicate (3 - (lg_sl ([.int i, .int n, .null])).length) Slot.unset).toArray = ls at hl ⊢
  have hl : lv_has ls 3 [(0, .int i), (1, .int n), (2, .null)] := hl
  refine lv_iload_n hx hb dJ3_checkIndex_8e157_0 rfl (lv_at hl 0 rfl) ?_
  refine lv_if_lt (tgt := 9) hx hb dJ3_checkIndex_8e157_1 (by decide) (fun h => absurd h h0) (fun _ => ?_)
  refine lv_iload_n hx hb dJ3_checkIndex_8e157_4 rfl (lv_at hl 0 rfl) ?_
  refine lv_iload_n hx hb dJ3_checkIndex_8e157_5 rfl (lv_at hl 1 rfl) ?_
  refine lv_icmp_lt (tgt := 16) hx hb dJ3_checkIndex_8e157_6 (by decide) (fun _ => ?_) (fun h => absurd h1 h)
  refine lv_iload_n hx hb dJ3_checkIndex_8e157_16 rfl (lv_at hl 0 rfl) ?_
  exact W.iret hx hb hr (fun t ht hW => ⟨rfl, ht⟩) (fun q h => nomatch h) dJ3_checkIndex_8e157_17
set_option maxHeartbeats 4000000 in
theorem j_chkR (l : Launch) (A : Nat → Prop) (ga adV : Nat → Nat) {i n : Int32} {a0 : Nat} (h0 : ¬ i < 0) (h1 : i < n) (F Lc : Nat) : Met l yJ3_checkIndex_8e157 (Cond.code yJ3_checkIndex_8e157 cJ3_checkIndex_8e157 3 (some .int) :: WG) { frames := F, cells := 0, slots := 0, locals := Lc } (va_Pc [.int i, .int n, .ref a0] (fun U => (fun _ => True) U)) (QcRead i) 0 0 (fun _ => False) := by
  refine Met.ofW (cc := cJ3_checkIndex_8e157) (maxL := 3) (ret := (some .int)) (by decide) rfl ?_
  intro p e s m args below meth c s₁ B hml hv
  obtain ⟨rfl, hSB⟩ := hv
  have hx := B.exec
  have hb := B.bytes
  have hr := B.returns
  have hts0 := atoms_spec (ws := Cond.code yJ3_checkIndex_8e157 cJ3_checkIndex_8e157 3 (some .int) :: WG) B.pre
  have hts : ∀ w ∈ WG, w.before _ s = true := fun w h => hts0 w (List.mem_cons_of_mem _ h)
  have hown : s.vm.findClass RJ3 = some m.cls := findClass_of_methodNamed B.named
  have hlocks := B.notSynchronized
  have hS : va_S A s.heap s.heap [] := va_S.rf
  have hl := lv_entry ([.int i, .int n, .ref a0]) (n := 3) (Nat.le_of_ble_eq_true rfl)
  rw [lg_entry_eq]
  generalize (lg_sl ([.int i, .int n, .ref a0]) ++ List.replicate (3 - (lg_sl ([.int i, .int n, .ref a0])).length) Slot.unset).toArray = ls at hl ⊢
  have hl : lv_has ls 3 [(0, .int i), (1, .int n), (2, .ref a0)] := hl
  refine lv_iload_n hx hb dJ3_checkIndex_8e157_0 rfl (lv_at hl 0 rfl) ?_
  refine lv_if_lt (tgt := 9) hx hb dJ3_checkIndex_8e157_1 (by decide) (fun h => absurd h h0) (fun _ => ?_)
  refine lv_iload_n hx hb dJ3_checkIndex_8e157_4 rfl (lv_at hl 0 rfl) ?_
  refine lv_iload_n hx hb dJ3_checkIndex_8e157_5 rfl (lv_at hl 1 rfl) ?_
  refine lv_icmp_lt (tgt := 16) hx hb dJ3_checkIndex_8e157_6 (by decide) (fun _ => ?_) (fun h => absurd h1 h)
  refine lv_iload_n hx hb dJ3_checkIndex_8e157_16 rfl (lv_at hl 0 rfl) ?_
  exact W.iret hx hb hr (fun t ht hW => ⟨rfl, ht⟩) (fun q h => nomatch h) dJ3_checkIndex_8e157_17
set_option maxHeartbeats 4000000 in
theorem j_check (l : Launch) (A : Nat → Prop) (ga adV : Nat → Nat) {i n : Int32} (h0 : ¬ i < 0) (h1 : i < n) (F Lc : Nat) : Met l yJ0_checkIndex_df160 (Cond.code yJ0_checkIndex_df160 cJ0_checkIndex_df160 2 none :: WG) { frames := F + 1, cells := 0, slots := 0, locals := Lc + 22 } (va_Pc [.int i, .int n] (fun U => SB A ga adV U)) (QcVoid) 0 0 (fun _ => False) := by
  refine Met.ofW (cc := cJ0_checkIndex_df160) (maxL := 2) (ret := none) (by decide) rfl ?_
  intro p e s m args below meth c s₁ B hml hv
  obtain ⟨rfl, hSB⟩ := hv
  have hx := B.exec
  have hb := B.bytes
  have hr := B.returns
  have hts0 := atoms_spec (ws := Cond.code yJ0_checkIndex_df160 cJ0_checkIndex_df160 2 none :: WG) B.pre
  have hts : ∀ w ∈ WG, w.before _ s = true := fun w h => hts0 w (List.mem_cons_of_mem _ h)
  have hown : s.vm.findClass RJ0 = some m.cls := findClass_of_methodNamed B.named
  have hlocks := B.notSynchronized
  have hS : va_S A s.heap s.heap [] := va_S.rf
  have hl := lv_entry ([.int i, .int n]) (n := 2) (Nat.le_of_ble_eq_true rfl)
  rw [lg_entry_eq]
  generalize (lg_sl ([.int i, .int n]) ++ List.replicate (2 - (lg_sl ([.int i, .int n])).length) Slot.unset).toArray = ls at hl ⊢
  have hl : lv_has ls 2 [(0, .int i), (1, .int n)] := hl
  refine lv_iload_n hx hb dJ0_checkIndex_df160_0 rfl (lv_at hl 0 rfl) ?_
  refine lv_iload_n hx hb dJ0_checkIndex_df160_1 rfl (lv_at hl 1 rfl) ?_
  rcases hSB.2.2 with hZ | ⟨a0, hZ⟩
  · refine va_gets hx hb hZ hS hown (hts _ jf1053) (fun _ h => h) dJ0_checkIndex_df160_2 ?_
    refine W.callR (W.runS (As := [.int i, .int n, .null]) (rest := []) ⟨hx, hb, hml, hown, hts⟩ (j_chkN l A ga adV h0 h1 0 0) ⟨callB_of 3 hts (jgood jcJ3_checkIndex_8e157) rfl rfl rfl (hts _ jnJ3) (hts _ jmJ0_1059) (by decide +kernel) ⟨by show 0 + 1 ≤ F + 1; omega, by show 8 + (3 + 11) + 0 ≤ Lc + 22; omega⟩, hts _ jsJ3_checkIndex_8e157⟩ ⟨fun _ _ _ _ q => q, fun _ _ _ => ⟨rfl, trivial⟩⟩ rfl rfl hl.1 rfl (lv_room (Nat.le_of_ble_eq_true rfl)) dJ0_checkIndex_df160_5 ⟨Nat.zero_le _, Nat.zero_le _⟩) ?_
    refine W.eq (g2 := F0 m 8 ls [.int i]) rfl ?_
    refine lv_pop hx hb dJ0_checkIndex_df160_8 rfl ?_
    exact W.vret hx hb hr (fun t ht hW => ⟨rfl, ht⟩) (fun q h => nomatch h) dJ0_checkIndex_df160_9
  · refine va_gets hx hb hZ hS hown (hts _ jf1053) (fun _ h => h) dJ0_checkIndex_df160_2 ?_
    refine W.callR (W.runS (As := [.int i, .int n, .ref a0]) (rest := []) ⟨hx, hb, hml, hown, hts⟩ (j_chkR l A ga adV (a0 := a0) h0 h1 0 0) ⟨callB_of 3 hts (jgood jcJ3_checkIndex_8e157) rfl rfl rfl (hts _ jnJ3) (hts _ jmJ0_1059) (by decide +kernel) ⟨by show 0 + 1 ≤ F + 1; omega, by show 8 + (3 + 11) + 0 ≤ Lc + 22; omega⟩, hts _ jsJ3_checkIndex_8e157⟩ ⟨fun _ _ _ _ q => q, fun _ _ _ => ⟨rfl, trivial⟩⟩ rfl rfl hl.1 rfl (lv_room (Nat.le_of_ble_eq_true rfl)) dJ0_checkIndex_df160_5 ⟨Nat.zero_le _, Nat.zero_le _⟩) ?_
    refine W.eq (g2 := F0 m 8 ls [.int i]) rfl ?_
    refine lv_pop hx hb dJ0_checkIndex_df160_8 rfl ?_
    exact W.vret hx hb hr (fun t ht hW => ⟨rfl, ht⟩) (fun q h => nomatch h) dJ0_checkIndex_df160_9

set_option maxHeartbeats 4000000 in
theorem j_at1 (l : Launch) (A : Nat → Prop) (ga adV : Nat → Nat) {t : Nat} {i : Int32} (ht : t < 17) (hi : vp_in i (sl t).length) (F Lc : Nat) : Met l yJ1_charAt_3b067 (Cond.code yJ1_charAt_3b067 cJ1_charAt_3b067 2 (some .char) :: WG) { frames := F + 2, cells := 0, slots := 0, locals := Lc + 43 } (va_Pc [.ref (adV t), .int i] (fun U => SB A ga adV U)) (QcRead ((sl t).getD i.toNatClampNeg 0)) 0 0 (fun _ => False) := by
  obtain ⟨hs1, hs2, hs3⟩ := sl_ok t ht
  have h0 : ¬ i < 0 := fun q => hi (Or.inl q)
  have hin : i.toNatClampNeg < (sl t).length := Nat.not_le.mp fun q => hi (Or.inr q)
  have h1 : i < Int32.ofNat (sl t).length := by
    obtain ⟨j, hj, rfl⟩ := vp_in_of hi (by omega)
    exact nI_lt hj (by omega)
  obtain ⟨e1, e2⟩ := hs3 _ hin
  refine Met.ofW (cc := cJ1_charAt_3b067) (maxL := 2) (ret := (some .char)) (by decide) rfl ?_
  intro p e s m args below meth c s₁ B hml hv
  obtain ⟨rfl, hSB⟩ := hv
  have hx := B.exec
  have hb := B.bytes
  have hr := B.returns
  have hts0 := atoms_spec (ws := Cond.code yJ1_charAt_3b067 cJ1_charAt_3b067 2 (some .char) :: WG) B.pre
  have hts : ∀ w ∈ WG, w.before _ s = true := fun w h => hts0 w (List.mem_cons_of_mem _ h)
  have hown : s.vm.findClass RJ1 = some m.cls := findClass_of_methodNamed B.named
  have hlocks := B.notSynchronized
  have hS : va_S A s.heap s.heap [] := va_S.rf
  have hl := lv_entry ([.ref (adV t), .int i]) (n := 2) (Nat.le_of_ble_eq_true rfl)
  rw [lg_entry_eq]
  generalize (lg_sl ([.ref (adV t), .int i]) ++ List.replicate (2 - (lg_sl ([.ref (adV t), .int i])).length) Slot.unset).toArray = ls at hl ⊢
  have hl : lv_has ls 2 [(0, .ref (adV t)), (1, .int i)] := hl
  have hT := (hSB.1.1 t ht).2.2.2
  rw [hs1] at hT
  refine lv_iload_n hx hb dJ1_charAt_3b067_0 rfl (lv_at hl 1 rfl) ?_
  refine lv_aload_n hx hb dJ1_charAt_3b067_1 rfl (lv_at hl 0 rfl) ?_
  refine va_tlen hx hb hT hS rfl dJ1_charAt_3b067_2 ?_
  refine W.callX (W.runS (As := [.int i, .int (Int32.ofNat (sl t).length)]) (rest := []) ⟨hx, hb, hml, hown, hts⟩ (j_check l A ga adV h0 h1 0 0) ⟨callB_of 2 hts (jgood jcJ0_checkIndex_df160) rfl rfl rfl (hts _ jnJ0) (hts _ jmJ1_9) (by decide +kernel) ⟨by show 0 + 1 + 1 ≤ F + 2; omega, by show 8 + (2 + 11) + (0 + 22) ≤ Lc + 43; omega⟩, hts _ jsJ0_checkIndex_df160⟩ ⟨fun _ _ _ _ q => ⟨q.1, q.2.calling⟩, fun U hU hW => ⟨rfl, hSB.moved hW.alike (fun _ _ _ => by rw [hU])⟩⟩ rfl rfl hl.1 rfl (lv_room (Nat.le_of_ble_eq_true rfl)) dJ1_charAt_3b067_3 ⟨Nat.zero_le _, Nat.zero_le _⟩) (fun _ h => nomatch h) (fun v st₀ t9 h9 hq9 => ?_)
  obtain ⟨hv9, hh9⟩ := hq9
  cases hv9
  rw [hh9, h9]
  refine W.eq (g2 := F0 m 6 ls []) rfl ?_
  refine lv_aload_n hx hb dJ1_charAt_3b067_6 rfl (lv_at hl 0 rfl) ?_
  refine lv_iload_n hx hb dJ1_charAt_3b067_7 rfl (lv_at hl 1 rfl) ?_
  refine va_tb hx hb hT hS hi rfl dJ1_charAt_3b067_8 ?_
  refine lv_sipush (v := 255) hx hb dJ1_charAt_3b067_9 (by decide) ?_
  refine lv_iand hx hb dJ1_charAt_3b067_12 ?_
  refine lv_i2c hx hb dJ1_charAt_3b067_13 e1 ?_
  exact W.zret hx hb hr e2 (fun t ht hW => ⟨rfl, ht⟩) (fun q h => nomatch h) dJ1_charAt_3b067_14
set_option maxHeartbeats 4000000 in
theorem j_charAt (l : Launch) (A : Nat → Prop) (ga adV : Nat → Nat) {t : Nat} {i : Int32} (ht : t < 17) (hi : vp_in i (sl t).length) (F Lc : Nat) : Met l yJ0_charAt_5068e (Cond.code yJ0_charAt_5068e cJ0_charAt_5068e 2 (some .char) :: WG) { frames := F + 3, cells := 0, slots := 0, locals := Lc + 64 } (va_Pc [.ref (ga (3 + t)), .int i] (fun U => SB A ga adV U)) (QcRead ((sl t).getD i.toNatClampNeg 0)) 0 0 (fun _ => False) := by
  obtain ⟨hs1, hs2, hs3⟩ := sl_ok t ht
  have hin : i.toNatClampNeg < (sl t).length := Nat.not_le.mp fun q => hi (Or.inr q)
  obtain ⟨e1, e2⟩ := hs3 _ hin
  refine Met.ofW (cc := cJ0_charAt_5068e) (maxL := 2) (ret := (some .char)) (by decide) rfl ?_
  intro p e s m args below meth c s₁ B hml hv
  obtain ⟨rfl, hSB⟩ := hv
  have hx := B.exec
  have hb := B.bytes
  have hr := B.returns
  have hts0 := atoms_spec (ws := Cond.code yJ0_charAt_5068e cJ0_charAt_5068e 2 (some .char) :: WG) B.pre
  have hts : ∀ w ∈ WG, w.before _ s = true := fun w h => hts0 w (List.mem_cons_of_mem _ h)
  have hown : s.vm.findClass RJ0 = some m.cls := findClass_of_methodNamed B.named
  have hlocks := B.notSynchronized
  have hS : va_S A s.heap s.heap [] := va_S.rf
  have hl := lv_entry ([.ref (ga (3 + t)), .int i]) (n := 2) (Nat.le_of_ble_eq_true rfl)
  rw [lg_entry_eq]
  generalize (lg_sl ([.ref (ga (3 + t)), .int i]) ++ List.replicate (2 - (lg_sl ([.ref (ga (3 + t)), .int i])).length) Slot.unset).toArray = ls at hl ⊢
  have hl : lv_has ls 2 [(0, .ref (ga (3 + t))), (1, .int i)] := hl
  refine lv_aload_n hx hb dJ0_charAt_5068e_0 rfl (lv_at hl 0 rfl) ?_
  refine W.callR (W.runV (C := RJ0) (b := ga (3 + t)) (As := []) (rest := []) ⟨hx, hb, hml, hown, hts⟩ (j_latin l A ga adV ht 0 0) ⟨callB_of 0 hts (jgood jcJ0_isLatin1_aae02) rfl rfl rfl (hts _ jnJ0) (hts _ jmJ0_492) (by decide +kernel) ⟨by show 0 + 1 ≤ F + 3; omega, by show 8 + (1 + 11) + 0 ≤ Lc + 64; omega⟩, hts _ jiJ0_isLatin1_aae02, hts _ jlJ0_isLatin1_aae02⟩ ⟨fun _ _ _ _ q => ⟨q.1, q.2.calling⟩, vk_recv (adK := fun i => ga (3 + i)) (i := t) hSB.1 ht hS, fun U hU hW => ⟨rfl, hSB.moved hW.alike (fun _ _ _ => by rw [hU])⟩⟩ rfl rfl hl.1 rfl (lv_room (Nat.le_of_ble_eq_true rfl)) dJ0_charAt_5068e_1 ⟨Nat.zero_le _, Nat.zero_le _⟩) ?_
  refine W.eq (g2 := F0 m 4 ls [.int 1]) rfl ?_
  refine lv_if_eq (tgt := 16) hx hb dJ0_charAt_5068e_4 (by decide) (fun h => absurd h (by decide)) (fun _ => ?_)
  refine lv_aload_n hx hb dJ0_charAt_5068e_7 rfl (lv_at hl 0 rfl) ?_
  refine vk_getf hx hb (hSB.1.1 t ht).2.2.1 hS hown (hts _ jf9) (fun _ h => h) dJ0_charAt_5068e_8 ?_
  refine lv_iload_n hx hb dJ0_charAt_5068e_11 rfl (lv_at hl 1 rfl) ?_
  refine W.callR (W.runS (As := [.ref (adV t), .int i]) (rest := []) ⟨hx, hb, hml, hown, hts⟩ (j_at1 l A ga adV ht hi 0 0) ⟨callB_of 2 hts (jgood jcJ1_charAt_3b067) rfl rfl rfl (hts _ jnJ1) (hts _ jmJ0_495) (by decide +kernel) ⟨by show 0 + 2 + 1 ≤ F + 3; omega, by show 8 + (2 + 11) + (0 + 43) ≤ Lc + 64; omega⟩, hts _ jsJ1_charAt_3b067⟩ ⟨fun _ _ _ _ q => ⟨q.1, q.2.calling⟩, fun U hU hW => ⟨rfl, hSB.moved hW.alike (fun _ _ _ => by rw [hU])⟩⟩ rfl rfl hl.1 rfl (lv_room (Nat.le_of_ble_eq_true rfl)) dJ0_charAt_5068e_12 ⟨Nat.zero_le _, Nat.zero_le _⟩) ?_
  refine W.eq (g2 := F0 m 15 ls [.int ((sl t).getD i.toNatClampNeg 0)]) rfl ?_
  exact W.zret hx hb hr e2 (fun t ht hW => ⟨rfl, ht⟩) (fun q h => nomatch h) dJ0_charAt_5068e_15
set_option maxHeartbeats 4000000 in
theorem j_length (l : Launch) (A : Nat → Prop) (ga adV : Nat → Nat) {t : Nat} (ht : t < 17) (F Lc : Nat) : Met l yJ0_length_8abf5 (Cond.code yJ0_length_8abf5 cJ0_length_8abf5 1 (some .int) :: WG) { frames := F + 1, cells := 0, slots := 0, locals := Lc + 20 } (va_Pc [.ref (ga (3 + t))] (fun U => SB A ga adV U)) (QcRead (Int32.ofNat (sl t).length)) 0 0 (fun _ => False) := by
  obtain ⟨hs1, hs2, hs3⟩ := sl_ok t ht
  refine Met.ofW (cc := cJ0_length_8abf5) (maxL := 1) (ret := (some .int)) (by decide) rfl ?_
  intro p e s m args below meth c s₁ B hml hv
  obtain ⟨rfl, hSB⟩ := hv
  have hx := B.exec
  have hb := B.bytes
  have hr := B.returns
  have hts0 := atoms_spec (ws := Cond.code yJ0_length_8abf5 cJ0_length_8abf5 1 (some .int) :: WG) B.pre
  have hts : ∀ w ∈ WG, w.before _ s = true := fun w h => hts0 w (List.mem_cons_of_mem _ h)
  have hown : s.vm.findClass RJ0 = some m.cls := findClass_of_methodNamed B.named
  have hlocks := B.notSynchronized
  have hS : va_S A s.heap s.heap [] := va_S.rf
  have hl := lv_entry ([.ref (ga (3 + t))]) (n := 1) (Nat.le_of_ble_eq_true rfl)
  rw [lg_entry_eq]
  generalize (lg_sl ([.ref (ga (3 + t))]) ++ List.replicate (1 - (lg_sl ([.ref (ga (3 + t))])).length) Slot.unset).toArray = ls at hl ⊢
  have hl : lv_has ls 1 [(0, .ref (ga (3 + t)))] := hl
  have hT := (hSB.1.1 t ht).2.2.2
  rw [hs1] at hT
  refine lv_aload_n hx hb dJ0_length_8abf5_0 rfl (lv_at hl 0 rfl) ?_
  refine vk_getf hx hb (hSB.1.1 t ht).2.2.1 hS hown (hts _ jf9) (fun _ h => h) dJ0_length_8abf5_1 ?_
  refine va_tlen hx hb hT hS rfl dJ0_length_8abf5_4 ?_
  refine lv_aload_n hx hb dJ0_length_8abf5_5 rfl (lv_at hl 0 rfl) ?_
  refine W.callR (W.runV (C := RJ0) (b := ga (3 + t)) (As := []) (rest := [.int (Int32.ofNat (sl t).length)]) ⟨hx, hb, hml, hown, hts⟩ (j_coder l A ga adV ht 0 0) ⟨callB_of 0 hts (jgood jcJ0_coder_7d493) rfl rfl rfl (hts _ jnJ0) (hts _ jmJ0_335) (by decide +kernel) ⟨by show 0 + 1 ≤ F + 1; omega, by show 8 + (1 + 11) + 0 ≤ Lc + 20; omega⟩, hts _ jiJ0_coder_7d493, hts _ jlJ0_coder_7d493⟩ ⟨fun _ _ _ _ q => ⟨q.1, q.2.calling⟩, vk_recv (adK := fun i => ga (3 + i)) (i := t) hSB.1 ht hS, fun U hU hW => ⟨rfl, hSB.moved hW.alike (fun _ _ _ => by rw [hU])⟩⟩ rfl rfl hl.1 rfl (lv_room (Nat.le_of_ble_eq_true rfl)) dJ0_length_8abf5_6 ⟨Nat.zero_le _, Nat.zero_le _⟩) ?_
  refine W.eq (g2 := F0 m 9 ls [.int 0, .int (Int32.ofNat (sl t).length)]) rfl ?_
  refine lv_ishr hx hb dJ0_length_8abf5_9 ?_
  rw [sb_shr0]
  exact W.iret hx hb hr (fun t ht hW => ⟨rfl, ht⟩) (fun q h => nomatch h) dJ0_length_8abf5_10
end
section
/-! ===== new int[n][k] ===== -/
theorem dis_app {A : Nat → Prop} {u v : va_W} (hD : va_D A (u ++ v)) {x y : Nat × va_E} (hx : x ∈ u) (hy : y ∈ v) : x.1 ≠ y.1 := by
  intro e
  obtain ⟨i, hi⟩ := List.getElem?_of_mem hx
  obtain ⟨j, hj⟩ := List.getElem?_of_mem hy
  have hil : i < u.length := (List.getElem?_eq_some_iff.mp hi).1
  have h1 : (u ++ v)[i]? = some x := by rw [List.getElem?_append_left hil]; exact hi
  have h2 : (u ++ v)[u.length + j]? = some y := by rw [List.getElem?_append_right (by omega), Nat.add_sub_cancel_left]; exact hj
  have := hD.1 _ _ _ _ h1 h2 e
  omega
theorem xRel.grid {D : va_G} {cA : Nat → ClassId} {A : Nat → Prop} {h : ac_H} {H1 : Heap} {q : Nat} {rs dom : List Nat} {c0 c1 : ac_C} (hd : ∀ a, h a ≠ none ↔ a ∈ dom) (hP : va_P D vwCl ((cwK cA h dom ++ [(q, encC cA (some c1))]) ++ rs.map (fun a => (a, encC cA (some c0)))) H1) (hD : va_D A ((cwK cA h dom ++ [(q, encC cA (some c1))]) ++ rs.map (fun a => (a, encC cA (some c0))))) : h q = none ∧ (∀ a ∈ rs, h a = none ∧ a ≠ q) ∧ xRel D cA A (hup (hgr h rs c0) q c1) H1 := by
  have e1 : ∀ a ∈ dom, ∀ b ∈ rs, a ≠ b := by
    intro a ha b hb
    have h1 : (a, encC cA (h a)) ∈ cwK cA h dom ++ [(q, encC cA (some c1))] := List.mem_append_left _ (by unfold cwK; exact List.mem_map.mpr ⟨a, ha, rfl⟩)
    have h2 : (b, encC cA (some c0)) ∈ rs.map (fun a => (a, encC cA (some c0))) := List.mem_map.mpr ⟨b, hb, rfl⟩
    exact dis_app hD h1 h2
  have e2 : ∀ b ∈ rs, b ≠ q := by
    intro b hb
    have h1 : (q, encC cA (some c1)) ∈ cwK cA h dom ++ [(q, encC cA (some c1))] := List.mem_append_right _ List.mem_cons_self
    have h2 : (b, encC cA (some c0)) ∈ rs.map (fun a => (a, encC cA (some c0))) := List.mem_map.mpr ⟨b, hb, rfl⟩
    exact (dis_app hD h1 h2).symm
  have e3 : ∀ a ∈ dom, a ≠ q := by
    intro a ha
    have hD2 : va_D A (cwK cA h dom ++ ([(q, encC cA (some c1))] ++ rs.map (fun a => (a, encC cA (some c0))))) := by rw [← List.append_assoc]; exact hD
    have h1 : (a, encC cA (h a)) ∈ cwK cA h dom := by unfold cwK; exact List.mem_map.mpr ⟨a, ha, rfl⟩
    exact dis_app hD2 h1 (List.mem_append_left _ List.mem_cons_self)
  have nn : ∀ a, a ∉ dom → h a = none := by
    intro a ha
    cases e : h a with
    | none => rfl
    | some c => exact absurd ((hd a).mp (by rw [e]; exact fun z => by cases z)) ha
  have hw : (cwK cA h dom ++ [(q, encC cA (some c1))]) ++ rs.map (fun a => (a, encC cA (some c0))) = cwK cA (hup (hgr h rs c0) q c1) ((dom ++ [q]) ++ rs) := by
    unfold cwK
    rw [List.map_append, List.map_append]
    congr 1
    · congr 1
      · apply List.map_congr_left
        intro a ha
        rw [hup_ne (e3 a ha)]
        unfold hgr
        rw [if_neg (fun z => e1 a ha a z rfl)]
      · simp [hup_self]
    · apply List.map_congr_left
      intro a ha
      rw [hup_ne (e2 a ha)]
      unfold hgr
      rw [if_pos ha]
  refine ⟨nn q (fun z => e3 q z rfl), fun a ha => ⟨nn a (fun z => e1 a z a ha rfl), e2 a ha⟩, (dom ++ [q]) ++ rs, fun x => ?_, hw ▸ hP, hw ▸ hD⟩
  by_cases ex : x = q
  · subst ex
    rw [hup_self]
    simp
  · rw [hup_ne ex]
    unfold hgr
    by_cases er : x ∈ rs
    · rw [if_pos er]
      simp [er]
    · rw [if_neg er, hd x]
      simp [er, ex]
section SNG
variable {p : Program} {l : Launch} {e : Env} {R : Room} {s : State} {m : MethodId} {args : Array Value} {below : List Frame} {meth : Method} {c : Code} {Z : State → Prop} {D : va_G} {cA : Nat → ClassId} {A : Nat → Prop}
variable {cc : ByteArray} {own : Nat} {isI : Bool} {tr : Nat} {nL : Nat} {sp : List Nat}
variable {call : Nat → List Value → ac_H → ac_P → Prop} {cs : Nat → Nat × Nat} {ga : Nat → Nat} {L : Nat} {xs : Nat → Int32} {sl : Nat → List Int32} {mb : Nat × Nat} {hands : List (Nat × Int)} {rt : Option FieldType} {Q : ac_P} {J : Nat → ac_X}
variable {is : ac_I} {ls : ac_L} {st : List Value} {h : ac_H} {bg : Nat × Nat} {pc n : Nat}

theorem s_swap (hx : p.tables.exec = Jvm.exec) (hb : c.code = cc) (hts : ∀ w ∈ WG, w.before args s = true) (hown : s.vm.findClass (oR own) = some m.cls) (hK : va_K D vwCl (tysK cA) s) (hOA : va_AOA .int s) (hRC : mb.1 ≤ R.cells ∧ mb.2 ≤ R.slots) (hA : ∀ q, s.heap.size ≤ q → A q) (ih : ∀ (pc : Nat) (ls : ac_L) (st : List Value) (h : ac_H) (bg : Nat × Nat), rowOK own isI tr nL sp cc pc is = true → xB call cs ga L xs sl mb hands rt Q J is ls st h bg → xR p l e R s m args below meth c Z D cA A nL mb pc ls st h bg) (hrow : rowOK own isI tr nL sp cc pc ((.swap, n) :: is) = true) (hxb : xB call cs ga L xs sl mb hands rt Q J ((.swap, n) :: is) ls st h bg) : xR p l e R s m args below meth c Z D cA A nL mb pc ls st h bg := by
  obtain ⟨ci, hd, hr, hw⟩ := row_step (ai := .swap) hrow
  simp only [xB] at hxb
  split at hxb
  · rename_i k0 n0 s1
    obtain ⟨hn0, hk0, hn1, hk1, hbb, hxb⟩ := hxb
    intro hbg H locs la hR hS hl
    simp only [rel] at hr
    split at hr
    · rw [Bool.and_eq_true, beq_iff_eq] at hr
      obtain ⟨rfl, hr⟩ := hr
      obtain ⟨q, hq, h1⟩ := List.any_eq_true.mp hr
      simp only [Bool.and_eq_true, beq_iff_eq] at h1
      obtain ⟨rfl, rfl⟩ := h1
      have hf := mna_ok _ hq
      obtain ⟨dom, hd1, hP, hD⟩ := id hR
      have hcy : s.vm.findClass (FieldType.array .int).toString = some (cA 0) := (hK.2 0 _ (tysK_at cA (by decide))).2
      have hP0 : va_P D vwCl (cwK cA h dom ++ va_pl [] (fun _ => .inr (0, []))) H := by show va_P D vwCl (cwK cA h dom ++ []) H; rw [List.append_nil]; exact hP
      have hD0 : va_D A (cwK cA h dom ++ va_pl [] (fun _ => .inr (0, []))) := by show va_D A (cwK cA h dom ++ []); rw [List.append_nil]; exact hD
      refine va_mna (ty := .int) (z := (k0.toNatClampNeg, .inl (fun _ => 0))) hx hb hown (wg hts hf rfl) hOA (hts _ arC_int) hcy hK hP0 hD0 hS hA hn0 hk0 rfl rfl (by omega) (by show k0.toNatClampNeg * 4 ≤ 536870912; omega) (by omega) rfl rfl (Nat.le_trans hbb.1 hRC.1) (Nat.le_trans hbb.2 hRC.2) (fun c => by show ({ cls := c, slots := Array.replicate _ _, vm := .none } : Cell) = _; rw [vp_cell_i, arrV_new]; rfl) hd (fun q9 r9 c9 H1 hinj hnL hK1 hP1 hD1 hS1 => ?_)
      have e9 := K_last (t := 4) (by decide) hK hK1
      subst e9
      have ew : va_pl ([] ++ (List.range n0.toNatClampNeg).map r9) (vr_up (fun _ => .inr (0, [])) ((List.range n0.toNatClampNeg).map r9) (.inl (cA 0, k0.toNatClampNeg, .inl (fun _ => 0)))) = ((List.range n0.toNatClampNeg).map r9).map (fun a => (a, encC cA (some (.inl (0, k0.toNatClampNeg, .inl (fun _ => 0)))))) := by
        unfold va_pl
        rw [List.nil_append]
        apply List.map_congr_left
        intro a ha
        rw [vr_up_in ha]
        rfl
      rw [ew] at hP1 hD1
      obtain ⟨g1, g2, g3⟩ := xRel.grid (c1 := .inl (4, n0.toNatClampNeg, .inr (.inr (.inr (.inr (fun i => if i < n0.toNatClampNeg then some (r9 i) else none)))))) (c0 := .inl (0, k0.toNatClampNeg, .inl (fun _ => 0))) (cA := cA) hd1 hP1 hD1
      have hgo := ih _ _ _ _ _ hw (hxb q9 r9 g1 (fun i hi => g2 _ (List.mem_map.mpr ⟨i, List.mem_range.mpr hi, rfl⟩)) hinj) hbb H1 locs la g3 hS1 hl
      have c1 : bg.1 + 1 + n0.toNatClampNeg = (bgad bg (1 + n0.toNatClampNeg, n0.toNatClampNeg + n0.toNatClampNeg * k0.toNatClampNeg)).1 := by show _ = bg.1 + (1 + n0.toNatClampNeg); omega
      have c2 : bg.2 + n0.toNatClampNeg + n0.toNatClampNeg * k0.toNatClampNeg = (bgad bg (1 + n0.toNatClampNeg, n0.toNatClampNeg + n0.toNatClampNeg * k0.toNatClampNeg)).2 := by show _ = bg.2 + (n0.toNatClampNeg + n0.toNatClampNeg * k0.toNatClampNeg); omega
      rw [c1, c2]
      exact hgo
    · cases hr
  · exact hxb.elim
end SNG
end
section
/-! ===== every step ===== -/
section SNZ
variable {p : Program} {l : Launch} {e : Env} {R : Room} {s : State} {m : MethodId} {args : Array Value} {below : List Frame} {meth : Method} {c : Code} {Z : State → Prop} {D : va_G} {cA : Nat → ClassId} {A : Nat → Prop}
variable {cc : ByteArray} {own : Nat} {isI : Bool} {tr : Nat} {nL : Nat} {sp : List Nat}
variable {call : Nat → List Value → ac_H → ac_P → Prop} {ga : Nat → Nat} {L : Nat} {xs : Nat → Int32} {mb : Nat × Nat} {hands : List (Nat × Int)} {rt : Option FieldType} {Q : ac_P} {J : Nat → ac_X}
variable {is : ac_I} {ls : ac_L} {st : List Value} {h : ac_H} {bg : Nat × Nat} {pc n : Nat}

theorem s_instanceof {k : Nat} (hTh : ∀ (k ik ic i pc : Nat) (h : ac_H) (bg : Nat × Nat) (H : Heap) (locs : List Loc) (la : Array Slot) (st : List Value), (own, k, ik, ic, i) ∈ excTab → decode cc pc = .ok (.new ik, 3) → decode cc (pc + 3) = .ok (.dup, 1) → decode cc (pc + 4) = .ok (.invokespecial ic, 3) → decode cc (pc + 7) = .ok (.athrow, 1) → tr = 0 → bgle (bgad bg (1, 6)) mb → st.length ≤ 4 → k < 4 → Q (.inr k) h → xRel D cA A h H → va_S A s.heap H locs → lv_has la nL [] → W p l e R s m args below meth c H locs bg.1 bg.2 Z (F0 m pc la st)) (hrow : rowOK own isI tr nL sp cc pc ((.instanceof k, n) :: is) = true) (hxb : xB call cst ga L xs sl mb hands rt Q J ((.instanceof k, n) :: is) ls st h bg) : xR p l e R s m args below meth c Z D cA A nL mb pc ls st h bg := by
  simp only [xB] at hxb
  obtain ⟨hbb, hle, hk4, hQ⟩ := hxb
  intro hbg H locs la hR hS hl
  have h1 : (n == 8 && is.isEmpty && tr == 0 && (match decode cc pc, decode cc (pc + 3), decode cc (pc + 4), decode cc (pc + 7) with
    | .ok (.new ik, 3), .ok (.dup, 1), .ok (.invokespecial ic, 3), .ok (.athrow, 1) => excTab.any (fun q => q.1 == own && q.2.1 == k && q.2.2.1 == ik && q.2.2.2.1 == ic)
    | _, _, _, _ => false)) = true := hrow
  rw [Bool.and_eq_true, Bool.and_eq_true] at h1
  obtain ⟨⟨-, htr⟩, h2⟩ := h1
  split at h2
  · rename_i ik ic e1 e2 e3 e4
    obtain ⟨i9, hq⟩ := any4 h2
    exact hTh k ik ic i9 pc h bg H locs la st hq e1 e2 e3 e4 (by simpa using htr) hbb hle hk4 hQ hR hS ⟨hl.1, hl.2.1, fun _ h => nomatch h⟩
  · cases h2
theorem s_invokedynamic (hx : p.tables.exec = Jvm.exec) (hb : c.code = cc) (hts : ∀ w ∈ WG, w.before args s = true) (hown : s.vm.findClass (oR own) = some m.cls) (hK : va_K D vwCl (tysK cA) s) {adV : Nat → Nat} (hSB : SB A ga adV s) (hRL : 200 ≤ R.locals) (hRF : 8 ≤ R.frames) (hRC : mb.1 ≤ R.cells ∧ mb.2 ≤ R.slots) (hml : c.maxLocals = nL) {w : Nat} (ih : ∀ (pc : Nat) (ls : ac_L) (st : List Value) (h : ac_H) (bg : Nat × Nat), rowOK own isI tr nL sp cc pc is = true → xB call cst ga L xs sl mb hands rt Q J is ls st h bg → xR p l e R s m args below meth c Z D cA A nL mb pc ls st h bg) (hrow : rowOK own isI tr nL sp cc pc ((.invokedynamic w, n) :: is) = true) (hxb : xB call cst ga L xs sl mb hands rt Q J ((.invokedynamic w, n) :: is) ls st h bg) : xR p l e R s m args below meth c Z D cA A nL mb pc ls st h bg := by
  obtain ⟨ci, hd, hr, hw⟩ := row_step (ai := .invokedynamic w) hrow
  simp only [xB] at hxb
  split at hxb
  · rename_i a s1
    obtain ⟨t, ht, rfl, hle, hxb⟩ := hxb
    intro hbg H locs la hR hS hl
    simp only [rel] at hr
    split at hr
    · rename_i j
      rw [Bool.and_eq_true, beq_iff_eq] at hr
      obtain ⟨rfl, hr⟩ := hr
      obtain ⟨i9, hq⟩ := any3 hr
      have hf := sx_ok _ hq
      have hcs := catsum s1
      refine W.callR (W.runV (C := RJ0) (b := ga (3 + t)) (As := []) (rest := s1) ⟨hx, hb, hml, hown, hts⟩ (j_length l A ga adV ht 0 0) ⟨callB_of 0 hts (jgood jcJ0_length_8abf5) rfl rfl rfl (hts _ jnJ0) (wg hts hf rfl) (by decide +kernel) ⟨by show 0 + 1 + 1 ≤ R.frames; omega, by show 8 + (1 + 11) + (0 + 20) ≤ R.locals; omega⟩, hts _ jiJ0_length_8abf5, hts _ jlJ0_length_8abf5⟩ ⟨fun _ _ _ _ q => ⟨q.1, q.2.calling⟩, vk_recv (adK := fun i => ga (3 + i)) (i := t) hSB.1 ht hS, fun U hU hW => ⟨rfl, hSB.moved hW.alike (fun a h1 h2 => by rw [hU]; exact hS.2.1 a h1 h2)⟩⟩ rfl rfl hl.1 rfl (by show 2 * 0 + _ ≤ 8; omega) hd ⟨Nat.le_trans hbg.1 hRC.1, Nat.le_trans hbg.2 hRC.2⟩) ?_
      exact ih _ _ _ _ _ hw hxb hbg H locs la hR hS hl
    · cases hr
  · rename_i i a s1
    obtain ⟨t, ht, rfl, hin, hle, hxb⟩ := hxb
    intro hbg H locs la hR hS hl
    simp only [rel] at hr
    split at hr
    · rename_i j
      rw [Bool.and_eq_true, beq_iff_eq] at hr
      obtain ⟨rfl, hr⟩ := hr
      obtain ⟨i9, hq⟩ := any3 hr
      have hf := sx_ok _ hq
      have hcs := catsum s1
      refine W.callR (W.runV (C := RJ0) (b := ga (3 + t)) (As := [.int i]) (rest := s1) ⟨hx, hb, hml, hown, hts⟩ (j_charAt l A ga adV ht hin 0 0) ⟨callB_of 1 hts (jgood jcJ0_charAt_5068e) rfl rfl rfl (hts _ jnJ0) (wg hts hf rfl) (by decide +kernel) ⟨by show 0 + 3 + 1 ≤ R.frames; omega, by show 8 + (2 + 11) + (0 + 64) ≤ R.locals; omega⟩, hts _ jiJ0_charAt_5068e, hts _ jlJ0_charAt_5068e⟩ ⟨fun _ _ _ _ q => ⟨q.1, q.2.calling⟩, vk_recv (adK := fun i => ga (3 + i)) (i := t) hSB.1 ht hS, fun U hU hW => ⟨rfl, hSB.moved hW.alike (fun a h1 h2 => by rw [hU]; exact hS.2.1 a h1 h2)⟩⟩ rfl rfl hl.1 rfl (by show 2 * 0 + _ ≤ 8; omega) hd ⟨Nat.le_trans hbg.1 hRC.1, Nat.le_trans hbg.2 hRC.2⟩) ?_
      exact ih _ _ _ _ _ hw hxb hbg H locs la hR hS hl
    · cases hr
  · exact hxb.elim

set_option maxHeartbeats 4000000 in
theorem xB_all (hx : p.tables.exec = Jvm.exec) (hb : c.code = cc) (hts : ∀ w ∈ WG, w.before args s = true) (hown : s.vm.findClass (oR own) = some m.cls) (hK : va_K D vwCl (tysK cA) s) {adV : Nat → Nat} (hX : va_X (ga 0) L xs s s.heap) (hbl : ga 0 < s.heap.size) (hbA : ¬ A (ga 0)) (hT1 : va_T .int (ga 1) 11 (fun j => .int (leastN.getD j 0)) A s s.heap) (hT2 : va_T .int (ga 2) 11 (fun j => .int (mostN.getD j 0)) A s s.heap) (hZ : ∀ k, k < 2 → va_Z RX6 (["LEAST_N", "MOST_N"].getD k "") "[I" (.ref (ga (1 + k))) A s s.heap) (hN : ∀ q ∈ statN, q.2.1 < 2 ∧ va_Nw (.fieldLinkNest (oR q.1) q.2.2 RX6 (["LEAST_N", "MOST_N"].getD q.2.1 "") "[I" RX6) s) (hStr : ∀ q ∈ strTab, vk_R (oR q.1) q.2.1 (stx.getD q.2.2 "") (ga (3 + q.2.2)) s) (hSB : SB A ga adV s) (hO3 : va_AO RX3 s) (hO0 : va_AO RX0 s) (hOA : va_AOA .int s) (hA : ∀ q, s.heap.size ≤ q → A q) (hI : isI = true → meth.name = "<init>") (hRL : 200 ≤ R.locals) (hRF : 8 ≤ R.frames) {GB : State → Prop} {F Lc : Nat} (hGB : ∀ (H : Heap) (locs : List Loc) (U : State), va_S A s.heap H locs → U.heap = H → s.WarmedH U.vm → GB U) (hGBb : ∀ (a : Array Value) (U : State) (g : JFrame) (mk : MethodId), GB U → GB (U.calling g mk a)) (hRm : F + 1 ≤ R.frames ∧ ∀ md ∈ methods, 8 + (mL md + 11) + Lc ≤ R.locals) (hRC : mb.1 ≤ R.cells ∧ mb.2 ≤ R.slots) (hml : c.maxLocals = nL) (hNest : ∀ q ∈ mthTab, ∀ md, methods[q.2.2.1]? = some md → (q.2.1 = 4 ∨ q.2.1 = 5) → va_Nw (.methodLinkNest (oR q.1) q.2.2.2.1 (mY md) RX6) s) (hM : ∀ (k : Nat) (md : ac_M) (as : List Value) (h : ac_H) (P : ac_P), methods[k]? = some md → call k as h P → xMet l D cA A GB F Lc md as h P) (hThr : ∀ (k pc : Nat) (h : ac_H) (bg : Nat × Nat) (H : Heap) (locs : List Loc) (la : Array Slot) (rest : List Value) (q : Addr) (ce : Cell), k < 4 → (tr = 0 ∨ pc < tr) → (match hands.lookup k with | some c9 => Q (.inl (some (.int (kI c9)))) h | none => Q (.inr k) h) → xRel D cA A h H → va_S A s.heap H locs → bgle bg mb → lv_has la nL [] → H[q]? = some ce → ce.vm = .none → s.vm.findClass (exN k) = some ce.cls → vx_W p l e R s m args below meth c H locs bg.1 bg.2 Z (F0 m pc la rest) q) (hTh : ∀ (k ik ic i pc : Nat) (h : ac_H) (bg : Nat × Nat) (H : Heap) (locs : List Loc) (la : Array Slot) (st : List Value), (own, k, ik, ic, i) ∈ excTab → decode cc pc = .ok (.new ik, 3) → decode cc (pc + 3) = .ok (.dup, 1) → decode cc (pc + 4) = .ok (.invokespecial ic, 3) → decode cc (pc + 7) = .ok (.athrow, 1) → tr = 0 → bgle (bgad bg (1, 6)) mb → st.length ≤ 4 → k < 4 → Q (.inr k) h → xRel D cA A h H → va_S A s.heap H locs → lv_has la nL [] → W p l e R s m args below meth c H locs bg.1 bg.2 Z (F0 m pc la st)) (hRet : ∀ (pc : Nat) (h : ac_H) (bg : Nat × Nat) (H : Heap) (locs : List Loc) (la : Array Slot) (v : Option Value) (ri : Instr), decode cc pc = .ok (ri, 1) → retOK rt ri v → Q (.inl v) h → xRel D cA A h H → va_S A s.heap H locs → bgle bg mb → W p l e R s m args below meth c H locs bg.1 bg.2 Z (F0 m pc la v.toList)) (hJ : ∀ (b t : Nat), sp[b]? = some t → ∀ ls st h bg, J b ls st h bg → xR p l e R s m args below meth c Z D cA A nL mb t ls st h bg) : ∀ (is : ac_I) (pc : Nat) (ls : ac_L) (st : List Value) (h : ac_H) (bg : Nat × Nat), rowOK own isI tr nL sp cc pc is = true → xB call cst ga L xs sl mb hands rt Q J is ls st h bg → xR p l e R s m args below meth c Z D cA A nL mb pc ls st h bg := by
  intro is
  induction is with
  | nil => intro pc ls st h bg _ hxb; exact False.elim hxb
  | cons a is ih =>
    obtain ⟨i, n⟩ := a
    intro pc ls st h bg hrow hxb
    cases i with
    | iadd => exact s_iadd hx hb ih hrow hxb
    | isub => exact s_isub hx hb ih hrow hxb
    | imul => exact s_imul hx hb ih hrow hxb
    | iand => exact s_iand hx hb ih hrow hxb
    | ior => exact s_ior hx hb ih hrow hxb
    | ixor => exact s_ixor hx hb ih hrow hxb
    | ineg => exact s_ineg hx hb ih hrow hxb
    | ladd => exact s_ladd hx hb ih hrow hxb
    | lsub => exact s_lsub hx hb ih hrow hxb
    | lmul => exact s_lmul hx hb ih hrow hxb
    | land => exact s_land hx hb ih hrow hxb
    | lor => exact s_lor hx hb ih hrow hxb
    | lxor => exact s_lxor hx hb ih hrow hxb
    | ishl => exact s_ishl hx hb ih hrow hxb
    | ishr => exact s_ishr hx hb ih hrow hxb
    | i2l => exact s_i2l hx hb ih hrow hxb
    | l2i => exact s_l2i hx hb ih hrow hxb
    | i2b => exact s_i2b hx hb ih hrow hxb
    | i2s => exact s_i2s hx hb ih hrow hxb
    | i2c => exact s_i2c hx hb ih hrow hxb
    | iushr => exact s_iushr hx hb ih hrow hxb
    | lshl => exact s_lshl hx hb ih hrow hxb
    | lshr => exact s_lshr hx hb ih hrow hxb
    | lcmp => exact s_lcmp hx hb ih hrow hxb
    | idiv => exact s_idiv hx hb ih hrow hxb
    | irem => exact s_irem hx hb ih hrow hxb
    | ldiv => exact s_ldiv hx hb ih hrow hxb
    | lrem => exact s_lrem hx hb ih hrow hxb
    | dup => exact s_dup hx hb ih hrow hxb
    | pop => exact s_pop hx hb ih hrow hxb
    | pop2 => exact s_pop2 hx hb ih hrow hxb
    | dup2 => exact s_dup2 hx hb ih hrow hxb
    | iload => exact s_iload hx hb ih hrow hxb
    | lload => exact s_lload hx hb ih hrow hxb
    | aload => exact s_aload hx hb ih hrow hxb
    | istore => exact s_istore hx hb ih hrow hxb
    | astore => exact s_astore hx hb ih hrow hxb
    | lstore => exact s_lstore hx hb ih hrow hxb
    | iinc => exact s_iinc hx hb ih hrow hxb
    | getfield => exact s_getfield hx hb hts hown hK ih hrow hxb
    | iaload => exact s_iaload hx hb hts hown hK ih hrow hxb
    | laload => exact s_laload hx hb hts hown hK ih hrow hxb
    | baload => exact s_baload hx hb hts hown hK ih hrow hxb
    | iastore => exact s_iastore hx hb hts hown hK ih hrow hxb
    | lastore => exact s_lastore hx hb hts hown hK ih hrow hxb
    | bastore => exact s_bastore hx hb hts hown hK ih hrow hxb
    | aaload => exact s_aaload hx hb hts hown hK ih hrow hxb
    | arraylength => exact s_arraylength hx hb hts hown hK ih hrow hxb
    | aastore => exact s_aastore hx hb hts hown hK ih hrow hxb
    | sipush => exact s_sipush hx hb hts hown hK ih hrow hxb
    | ldc2_w => exact s_ldc2_w hx hb hts hown hK ih hrow hxb
    | putfield => exact s_putfield hx hb hts hown hK hI ih hrow hxb
    | ifCond => exact s_ifCond hx hb hJ ih hrow hxb
    | if_icmp => exact s_if_icmp hx hb hJ ih hrow hxb
    | goto => exact s_goto hx hb hJ hrow hxb
    | faload => exact s_faload hx hb hts hown hK hX hbl hbA ih hrow hxb
    | caload => exact s_caload hx hb hts hown hK hX hbl hbA ih hrow hxb
    | daload => exact s_daload hx hb hts hown hK hT1 ih hrow hxb
    | saload => exact s_saload hx hb hts hown hK hT2 ih hrow hxb
    | getstatic => exact s_getstatic hx hb hts hown hK hZ hN ih hrow hxb
    | ldc => exact s_ldc (tx := fun t => stx.getD t "") hx hb hts hown hK hStr ih hrow hxb
    | new => exact s_new hx hb hts hown hK hRC hA ih hrow hxb
    | newarray => exact s_newarray hx hb hts hown hK hRC hA ih hrow hxb
    | anewarray => exact s_anewarray hx hb hts hown hK hO3 hO0 hRC hA ih hrow hxb
    | swap => exact s_swap hx hb hts hown hK hOA hRC hA ih hrow hxb
    | monitorexit => exact s_monitorexit hx hb hts hown hK (Nat.le_trans (by decide) hRL) (Nat.le_trans (by decide) hRF) hml ih hrow hxb
    | monitorenter => exact s_monitorenter hx hb hts hown hK (Nat.le_trans (by decide) hRL) (Nat.le_trans (by decide) hRF) hml ih hrow hxb
    | ireturn => exact s_ireturn hx hb hts hown hK hRet hrow hxb
    | lreturn => exact s_lreturn hx hb hts hown hK hRet hrow hxb
    | areturn => exact s_areturn hx hb hts hown hK hRet hrow hxb
    | return_ => exact s_return_ hx hb hts hown hK hRet hrow hxb
    | tableswitch => exact s_tableswitch hx hb hts hown hK hJ hrow hxb
    | lookupswitch => exact s_lookupswitch hx hb hts hown hK hJ hrow hxb
    | instanceof => exact s_instanceof hTh hrow hxb
    | invokedynamic => exact s_invokedynamic hx hb hts hown hK hSB hRL hRF hRC hml ih hrow hxb
    | multianewarray => exact s_multianewarray hx hb hts hown hK hGB hGBb hRm hRC hml hNest hM hThr ih hrow hxb
    | putstatic => exact s_putstatic hx hb hts hown hK hGB hGBb hRm hRC hml hNest hM hThr ih hrow hxb
    | invokeinterface => exact s_invokeinterface hx hb hts hown hK hGB hGBb hRm hRC hml hNest hM hThr ih hrow hxb
    | ret => exact s_ret hx hb hts hown hK hGB hGBb hRm hRC hml hNest hM hThr ih hrow hxb
    | dload => exact s_dload hx hb hts hown hK hGB hGBb hRm hRC hml hNest hM hThr ih hrow hxb
    | _ => exact False.elim hxb
end SNZ
end
section
def declX : List MethodName := [⟨"java/lang/RuntimeException", "<init>", "()V"⟩, ⟨"java/lang/RuntimeException", "<init>", "(Ljava/lang/String;)V"⟩, ⟨"java/lang/Exception", "<init>", "()V"⟩, ⟨"java/lang/Exception", "<init>", "(Ljava/lang/String;)V"⟩, ⟨"java/lang/Throwable", "<init>", "()V"⟩, ⟨"java/lang/Throwable", "<init>", "(Ljava/lang/String;)V"⟩]
/-! ===== what holds of every state ===== -/
theorem va_AOA.moved {ty : FieldType} {u U : State} (hvm : u.vm.Alike U.vm) (h : va_AOA ty u) : va_AOA ty U := by
  have h1 := Cond.arrayOver_setVmC (args := #[]) (s := u) hvm (.array ty)
  unfold va_AOA at h ⊢
  rw [h] at h1
  have h2 : (Cond.arrayOver (.array ty)).before #[] U = (Cond.arrayOver (.array ty)).before #[] (u.setVm U.vm) := by
    simp only [Cond.before, Cond.holds, Cond.value, State.vm_setVm]
    rfl
  rw [h2, h1]
def nmS (k : Nat) : String := ["LEAST_N", "MOST_N"].getD k ""
def GBt (D : va_G) (cA : Nat → ClassId) (A : Nat → Prop) (ga adV : Nat → Nat) (L : Nat) (xs : Nat → Int32) (U : State) : Prop :=
  va_K D vwCl (tysK cA) U ∧ (va_X (ga 0) L xs U U.heap ∧ ga 0 < U.heap.size ∧ ¬ A (ga 0)) ∧ (va_T .int (ga 1) 11 (fun j => .int (leastN.getD j 0)) A U U.heap ∧ va_T .int (ga 2) 11 (fun j => .int (mostN.getD j 0)) A U U.heap) ∧ (∀ k, k < 2 → va_Z RX6 (["LEAST_N", "MOST_N"].getD k "") "[I" (.ref (ga (1 + k))) A U U.heap) ∧
  (∀ q ∈ statN, q.2.1 < 2 ∧ va_Nw (.fieldLinkNest (oR q.1) q.2.2 RX6 (["LEAST_N", "MOST_N"].getD q.2.1 "") "[I" RX6) U) ∧ (∀ q ∈ strTab, vk_R (oR q.1) q.2.1 (stx.getD q.2.2 "") (ga (3 + q.2.2)) U) ∧ SB A ga adV U ∧ (va_AO RX3 U ∧ va_AO RX0 U ∧ va_AOA .int U) ∧ (∀ q, U.heap.size ≤ q → A q) ∧
  (∀ q ∈ mthTab, ∀ md, methods[q.2.2.1]? = some md → (q.2.1 = 4 ∨ q.2.1 = 5) → va_Nw (.methodLinkNest (oR q.1) q.2.2.2.1 (mY md) RX6) U) ∧
  (vx_Zq Bundle.tN "UNASSIGNED_STACK" Bundle.steD A U U.heap ∧ vx_Zq Bundle.tN "SUPPRESSED_SENTINEL" Bundle.listD A U U.heap) ∧ (∀ k, k < 4 → va_Nw (.castable (exN k) (exN k)) U) ∧ (∀ x ∈ declX, va_Nw (.declares x) U) ∧ (∀ j k, j < 4 → k < 4 → j ≠ k → va_Nc (exN j) (exN k) U)
theorem GBt.moved {D : va_G} {cA : Nat → ClassId} {A : Nat → Prop} {ga adV : Nat → Nat} {L : Nat} {xs : Nat → Int32} {s U : State} (h : GBt D cA A ga adV L xs s) (hW : s.WarmedH U.vm) (hz : s.heap.size ≤ U.heap.size) (hq : ∀ a : Nat, a < s.heap.size → ¬ A a → U.heap[a]? = s.heap[a]?) : GBt D cA A ga adV L xs U := by
  obtain ⟨h1, ⟨h2, h3, h4⟩, ⟨h5, h6⟩, h7, h8, h9, h10, ⟨h11, h12, h13⟩, h14, h15, ⟨h16, h17⟩, h18, h19, h20⟩ := h
  have ha := hW.alike
  refine ⟨va_K.moved ha h1, ⟨?_, Nat.lt_of_lt_of_le h3 hz, h4⟩, ⟨va_T.kept (va_T.moved ha h5) hq, va_T.kept (va_T.moved ha h6) hq⟩, fun k hk => va_Z.kept (va_Z.moved ha (h7 k hk)) hq, fun q hh => ⟨(h8 q hh).1, va_Nw.warmF hW (h8 q hh).2⟩, fun q hh => vk_R.warm hW (h9 q hh), h10.moved ha hq, ⟨va_AO.moved ha h11, va_AO.moved ha h12, va_AOA.moved ha h13⟩, fun q hh => h14 q (Nat.le_trans hz hh), fun q hh md hm hk => va_Nw.warmM hW (h15 q hh md hm hk), ⟨vx_Zq.kept (vx_Zq.moved ha h16) hq, vx_Zq.kept (vx_Zq.moved ha h17) hq⟩, fun k hk => va_Nw.warmC hW (h18 k hk), fun x hx => va_Nw.warmD hW (h19 x hx), fun j k hj hk hn => va_Nc.moved ha (h20 j k hj hk hn)⟩
  obtain ⟨scr, g1, g2, g3, g4, g5⟩ := va_X.moved ha h2
  exact ⟨scr, by rw [hq _ h3 h4]; exact g1, g2, g3, g4, g5⟩
end
section
set_option maxRecDepth 100000 in
theorem ck0 : ∀ m ∈ ms0, codeOK m = true := by decide +kernel
set_option maxRecDepth 100000 in
theorem ck1 : ∀ m ∈ ms1, codeOK m = true := by decide +kernel
set_option maxRecDepth 100000 in
theorem ck2 : ∀ m ∈ ms2, codeOK m = true := by decide +kernel
set_option maxRecDepth 100000 in
theorem ck3 : ∀ m ∈ ms3, codeOK m = true := by decide +kernel
set_option maxRecDepth 100000 in
theorem ck4 : ∀ m ∈ ms4, codeOK m = true := by decide +kernel
set_option maxRecDepth 100000 in
theorem ck5 : ∀ m ∈ ms5, codeOK m = true := by decide +kernel
set_option maxRecDepth 100000 in
theorem ck6 : ∀ m ∈ ms6, codeOK m = true := by decide +kernel
set_option maxRecDepth 100000 in
theorem ck7 : ∀ m ∈ ms7, codeOK m = true := by decide +kernel
set_option maxRecDepth 100000 in
theorem ck8 : ∀ m ∈ ms8, codeOK m = true := by decide +kernel
set_option maxRecDepth 100000 in
theorem ck9 : ∀ m ∈ ms9, codeOK m = true := by decide +kernel
set_option maxRecDepth 100000 in
theorem ck10 : ∀ m ∈ ms10, codeOK m = true := by decide +kernel
end
section
/-! ===== the words of a throw ===== -/
def nmsX : List String := ["java/lang/RuntimeException", "java/lang/Exception"]
def thB (k : Nat) : List Cond := Cond.castable (exN k) (exN k) :: declX.map Cond.declares
set_option maxRecDepth 100000 in
theorem thW0 : ∀ w ∈ (vx_at0 RX6 127 (exN 0) nmsX).filter goodWord, w ∈ WG := wg_list [84, 536, 545, 550, 553, 555, 537, 538, 104, 105, 539, 544, 551, 567, 526, 568, 528, 569, 530, 540, 542, 532, 557, 558, 559, 560, 560, 561, 562, 563, 563, 564, 565, 537, 556, 515, 523, 524, 525, 527, 529, 531, 535, 534, 533] (by decide +kernel) (by decide +kernel)
set_option maxRecDepth 100000 in
theorem thN0 : ∀ w ∈ (vx_at0 RX6 127 (exN 0) nmsX).filter (fun w => !goodWord w), w ∈ thB 0 := by decide +kernel
set_option maxRecDepth 100000 in
theorem thG0 : ∀ w ∈ Cond.classLink RX6 125 (exN 0) :: Cond.initialized (exN 0) :: vx_at0 RX6 127 (exN 0) nmsX, vx_ot w = true := by decide +kernel
theorem thI0 : Cond.initialized (exN 0) ∈ WG := wg_in (i := 87) (by decide +kernel) (by decide +kernel)
set_option maxRecDepth 100000 in
theorem thW1 : ∀ w ∈ (vx_at0 RX6 339 (exN 1) nmsX).filter goodWord, w ∈ WG := wg_list [84, 536, 545, 550, 553, 555, 537, 538, 104, 105, 539, 544, 551, 567, 526, 568, 528, 569, 530, 540, 542, 532, 730, 731, 732, 560, 560, 561, 562, 563, 563, 564, 565, 537, 729, 721, 723, 549, 724, 725, 726, 727, 535, 534, 728] (by decide +kernel) (by decide +kernel)
set_option maxRecDepth 100000 in
theorem thN1 : ∀ w ∈ (vx_at0 RX6 339 (exN 1) nmsX).filter (fun w => !goodWord w), w ∈ thB 1 := by decide +kernel
set_option maxRecDepth 100000 in
theorem thG1 : ∀ w ∈ Cond.classLink RX6 337 (exN 1) :: Cond.initialized (exN 1) :: vx_at0 RX6 339 (exN 1) nmsX, vx_ot w = true := by decide +kernel
theorem thI1 : Cond.initialized (exN 1) ∈ WG := wg_in (i := 92) (by decide +kernel) (by decide +kernel)
set_option maxRecDepth 100000 in
theorem thW2 : ∀ w ∈ (vx_at0 RX6 227 (exN 2) nmsX).filter goodWord, w ∈ WG := wg_list [84, 536, 545, 550, 553, 555, 537, 538, 104, 105, 539, 544, 551, 567, 526, 568, 528, 569, 530, 540, 542, 532, 768, 769, 770, 560, 560, 561, 562, 563, 563, 564, 565, 537, 767, 759, 761, 547, 762, 763, 764, 765, 535, 534, 766] (by decide +kernel) (by decide +kernel)
set_option maxRecDepth 100000 in
theorem thN2 : ∀ w ∈ (vx_at0 RX6 227 (exN 2) nmsX).filter (fun w => !goodWord w), w ∈ thB 2 := by decide +kernel
set_option maxRecDepth 100000 in
theorem thG2 : ∀ w ∈ Cond.classLink RX6 225 (exN 2) :: Cond.initialized (exN 2) :: vx_at0 RX6 227 (exN 2) nmsX, vx_ot w = true := by decide +kernel
theorem thI2 : Cond.initialized (exN 2) ∈ WG := wg_in (i := 94) (by decide +kernel) (by decide +kernel)
set_option maxRecDepth 100000 in
theorem thW3 : ∀ w ∈ (vx_at0 RX6 320 (exN 3) nmsX).filter goodWord, w ∈ WG := wg_list [84, 536, 545, 550, 553, 555, 537, 538, 104, 105, 539, 544, 551, 567, 526, 568, 528, 569, 530, 540, 542, 532, 1177, 1178, 1179, 560, 560, 561, 562, 563, 563, 564, 565, 537, 1176, 1168, 1170, 548, 1171, 1172, 1173, 1174, 535, 534, 1175] (by decide +kernel) (by decide +kernel)
set_option maxRecDepth 100000 in
theorem thN3 : ∀ w ∈ (vx_at0 RX6 320 (exN 3) nmsX).filter (fun w => !goodWord w), w ∈ thB 3 := by decide +kernel
set_option maxRecDepth 100000 in
theorem thG3 : ∀ w ∈ Cond.classLink RX6 318 (exN 3) :: Cond.initialized (exN 3) :: vx_at0 RX6 320 (exN 3) nmsX, vx_ot w = true := by decide +kernel
theorem thI3 : Cond.initialized (exN 3) ∈ WG := wg_in (i := 97) (by decide +kernel) (by decide +kernel)
theorem th_words {own k ik ic i : Nat} (hq : (own, k, ik, ic, i) ∈ excTab) : (∀ w ∈ (vx_at0 (oR own) ic (exN k) nmsX).filter goodWord, w ∈ WG) ∧ (∀ w ∈ (vx_at0 (oR own) ic (exN k) nmsX).filter (fun w => !goodWord w), w ∈ thB k) ∧ (∀ w ∈ Cond.classLink (oR own) ik (exN k) :: Cond.initialized (exN k) :: vx_at0 (oR own) ic (exN k) nmsX, vx_ot w = true) ∧ Cond.initialized (exN k) ∈ WG ∧ Cond.classLink (oR own) ik (exN k) ∈ WG := by
  have hc : Cond.classLink (oR own) ik (exN k) ∈ WG := wg_in (exc_ok _ hq) rfl
  simp only [excTab, List.mem_cons, List.not_mem_nil, or_false, Prod.mk.injEq] at hq
  rcases hq with h | h | h | h
  · obtain ⟨rfl, rfl, rfl, rfl, rfl⟩ := h
    exact ⟨thW0, thN0, thG0, thI0, hc⟩
  · obtain ⟨rfl, rfl, rfl, rfl, rfl⟩ := h
    exact ⟨thW1, thN1, thG1, thI1, hc⟩
  · obtain ⟨rfl, rfl, rfl, rfl, rfl⟩ := h
    exact ⟨thW2, thN2, thG2, thI2, hc⟩
  · obtain ⟨rfl, rfl, rfl, rfl, rfl⟩ := h
    exact ⟨thW3, thN3, thG3, thI3, hc⟩
theorem exN_fit : ∀ k, k < 4 → Bundle.fit (exN k) = true := by decide +kernel
theorem nms_fit : ∀ n ∈ nmsX, Bundle.fit n = true := by decide +kernel
theorem xRel.kept {D : va_G} {cA : Nat → ClassId} {A : Nat → Prop} {h : ac_H} {H H1 : Heap} (hR : xRel D cA A h H) (hq : ∀ q : Nat, q < H.size → H1[q]? = H[q]?) : xRel D cA A h H1 := by
  obtain ⟨dom, h1, h2, h3⟩ := hR
  exact ⟨dom, h1, h2.kept (fun k q hk => hq _ (vx_lt h2 hk)), h3⟩
theorem F_of_S {A : Nat → Prop} {s t : State} {H : Heap} {locs : List Loc} (hS : va_S A s.heap H locs) (hz : H.size ≤ t.heap.size) (hq : ∀ q : Nat, q < H.size → t.heap[q]? = H[q]?) : va_F A s t := ⟨Nat.le_trans hS.1 hz, fun q h1 h2 => by rw [hq q (Nat.lt_of_lt_of_le h1 hS.1)]; exact hS.2.1 q h1 h2⟩
section THR
variable {p : Program} {l : Launch} {e : Env} {R : Room} {s : State} {m : MethodId} {args : Array Value} {below : List Frame} {meth : Method} {c : Code} {D : va_G} {cA : Nat → ClassId} {A : Nat → Prop} {P : ac_P}
variable {cc : ByteArray} {own : Nat} {tr : Nat} {nL : Nat} {ga adV : Nat → Nat} {L : Nat} {xs : Nat → Int32} {mb : Nat × Nat}
theorem th_all (hx : p.tables.exec = Jvm.exec) (hb : c.code = cc) (hl : l.stackTraces = false) (hts : ∀ w ∈ WG, w.before args s = true) (hown : s.vm.findClass (oR own) = some m.cls) (hG : GBt D cA A ga adV L xs s) (hlocks : meth.locks = false) (hml : c.maxLocals = nL) (htab : tr = 0 → ∀ x ∈ c.exceptionTable.toList, False) (hRF : 8 ≤ R.frames) (hRL : 200 ≤ R.locals) (hRC : mb.1 ≤ R.cells ∧ mb.2 ≤ R.slots)
    (k ik ic i pc : Nat) (h : ac_H) (bg : Nat × Nat) (H : Heap) (locs : List Loc) (la : Array Slot) (st : List Value) (hq : (own, k, ik, ic, i) ∈ excTab) (d0 : decode cc pc = .ok (.new ik, 3)) (d3 : decode cc (pc + 3) = .ok (.dup, 1)) (d4 : decode cc (pc + 4) = .ok (.invokespecial ic, 3)) (d7 : decode cc (pc + 7) = .ok (.athrow, 1)) (htr : tr = 0) (hbb : bgle (bgad bg (1, 6)) mb) (hst : st.length ≤ 4) (hk : k < 4) (hP : P (.inr k) h) (hR : xRel D cA A h H) (hS : va_S A s.heap H locs) (hla : lv_has la nL []) :
    W p l e R s m args below meth c H locs bg.1 bg.2 (vx_MQ below (QcP D cA A P) (XcP D cA A P) args s mb.1 mb.2 A) (F0 m pc la st) := by
  obtain ⟨w1, w2, w3, w4, w5⟩ := th_words hq
  obtain ⟨g1, g2, g3, g4, g5, g6, g7, g8, g9, g10, ⟨g11, g12⟩, g13, g14, g15⟩ := hG
  have hcs := catsum st
  have hb1 : bg.1 + 1 ≤ mb.1 := hbb.1
  have hb2 : bg.2 + 6 ≤ mb.2 := hbb.2
  have hat : ∀ w ∈ vx_at0 (oR own) ic (exN k) nmsX, w.before args s = true := vx_hat (fun w hw => hts w (w1 w hw)) w2 (fun w hw => by
    rcases List.mem_cons.mp hw with h9 | h9
    · rw [h9]; exact va_Nw.use rfl (g13 k hk)
    · obtain ⟨x, hx9, rfl⟩ := List.mem_map.mp h9
      exact va_Nw.use rfl (g14 x hx9))
  exact vx_throw0 hx hb hl (own := oR own) (cls := exN k) (names := nmsX) hown (exN_fit k hk) nms_fit (hts _ w5) (hts _ w4) hat w3 g11 g12 hS (hla.1.trans hml.symm) d0 d3 d4 d7 (fun x hx9 => (htab htr x hx9).elim) (by show 2 + 3 < R.frames; omega) (by show _ + (13 * (2 + 1) + 42) ≤ R.locals; omega) (by omega) (by omega) hlocks (fun t ha hz hq9 => ⟨⟨k, h, hk, rfl, hP, hR.kept hq9⟩, F_of_S hS hz hq9⟩) hS.2.2 hb1 hb2
end THR
end
section
/-! ===== the abstract program: methods by depth ===== -/
def hndD : List (Nat × List (Nat × Nat × Nat)) := [(256, [(3, 1, 506)]), (257, [(4, 2, 711), (4, 2, 506)]), (258, [(3, 1, 506)]), (259, [(3, 1, 749)]), (260, [(3, 1, 749), (3, 1, 506)]), (261, [(3, 1, 506)]), (262, [(3, 1, 711)]), (263, [(3, 1, 711)]), (264, [(3, 1, 711)]), (265, [(4, 2, 711), (4, 2, 506)]), (266, [(4, 2, 711), (4, 2, 749), (4, 2, 506)]), (267, [(4, 2, 711), (4, 2, 506)]), (268, [(3, 1, 506)]), (269, [(3, 1, 506)]), (270, [(4, 2, 711), (4, 2, 749), (4, 2, 506)]), (271, [(5, 2, 506), (5, 2, 749)]), (272, [(3, 1, 506)]), (273, [(3, 1, 506)]), (274, [(4, 2, 506)]), (275, [(3, 1, 506)]), (276, [(3, 1, 506)]), (277, [(3, 1, 506)]), (278, [(5, 2, 506)]), (279, [(3, 1, 506)]), (280, [(5, 2, 711), (5, 2, 749), (5, 2, 506)]), (281, [(6, 2, 711), (6, 2, 506)]), (282, [(4, 2, 506)]), (283, [(3, 1, 506)]), (284, [(4, 2, 711), (4, 2, 506)]), (285, [(3, 1, 506)]), (286, [(5, 2, 711), (5, 2, 506)]), (287, [(3, 1, 506)]), (288, [(4, 2, 711)]), (289, [(4, 2, 711)]), (290, [(3, 1, 506)]), (291, [(3, 1, 506)]), (292, [(4, 2, 711), (4, 2, 506)]), (293, [(6, 2, 711), (6, 2, 749), (6, 2, 1162)]), (294, [(3, 1, 711), (3, 1, 749)]), (295, [(2, 1, 711)]), (296, [(2, 1, 711), (2, 1, 749)])]
def hndE (m : ac_M) (i : Nat) (x : Nat × Nat × Nat) : Bool := match (mT m)[i]?, (mH m)[i]? with
  | some (s, e, t, ct), some (kk, c) => decide (s = 0) && decide (e = trE m) && decide (kk < 4) && decide (¬ ct = 0) && decide (lw_tbl[x.2.2]? = some (.classLink (oR (mO m)) ct (exN kk))) && rowOK (mO m) (decide ((mY m).name = "<init>")) (trE m) (mL m) (starts m) (mC m) t [(.astore x.1, x.2.1), (.sipush c, 1), (.ireturn, 1)]
  | _, _ => false
def hndOK (k : Nat) (m : ac_M) : Bool := match hndD.lookup k with
  | none => decide (mT m = [])
  | some l => decide (l.length = (mT m).length) && decide ((mH m).length = (mT m).length) && decide (0 < trE m) && decide (mR m = some .int) && (List.range l.length).all (fun i => match l[i]? with | some x => hndE m i x | none => false)
set_option maxRecDepth 100000 in
theorem hnd_ok : ((List.range 297).all (fun k => match methods[k]? with | some m => hndOK k m | none => true)) = true := by decide +kernel
set_option maxRecDepth 100000 in
theorem m_own : ∀ m ∈ methods, oR (mO m) = (mY m).cls ∧ mL m ≤ 30 ∧ (starts m)[0]? = some 0 := by decide +kernel
section WPS
variable (ga : Nat → Nat) (L : Nat) (xs : Nat → Int32)
/-- what a method's blocks make of a jump predicate -/
def xBody (call : Nat → List Value → ac_H → ac_P → Prop) (md : ac_M) (P : ac_P) (J : Nat → ac_X) : Prop := ∀ (b pb : Nat) (is : ac_I), (mS md)[b]? = some (pb, is) → ∀ (ls : ac_L) (st : List Value) (h : ac_H) (bg : Nat × Nat), xB call cst ga L xs sl (mB md) (mH md) (mR md) P J is ls st h bg → J b ls st h bg
def WP : Nat → Nat → List Value → ac_H → ac_P → Prop
  | 0, _, _, _, _ => False
  | d + 1, k, as, h, P => ∃ md, methods[k]? = some md ∧ (entA as).length ≤ mL md ∧ ∀ J : Nat → ac_X, xBody ga L xs (WP d) md P J → J 0 (entL as (mL md)) [] h (0, 0)
end WPS
theorem lg_len : ∀ as : List Value, (lg_sl as).length = (entA as).length
  | [] => rfl
  | v :: as => by
    have h := lg_len as
    unfold lg_sl at h ⊢
    rw [List.flatMap_cons, List.length_append, h, entA]
    by_cases hc : cat2 (some v) = true
    · rw [if_pos hc, if_pos ((cat2_iff v).mp hc)]
      simp
      omega
    · rw [if_neg hc, if_neg (fun e => hc ((cat2_iff v).mpr e))]
      simp
      omega
theorem of_both {l : Launch} {md : ac_M} {rm : Room} {Pc : Array Value → State → Prop} {Qc : Array Value → State → Outcome → State → Prop} {XC : String → State → State → Prop} {mc ms : Nat} {free : Addr → Prop} (hf : mFacts md)
    (body : ∀ p e s m args below meth c s₁, BodyLoose p l (mY md) (headSpec (wsK md) rm) (mC md) (mL md) (mR md) e s m args below meth c s₁ → c.maxLocals = mL md → c.exceptionTable.toList = tableOf (mT md) → Pc args s →
      W p l e (headSpec (wsK md) rm).room s m args below meth c s.heap [] 0 0 (vx_MQ below Qc XC args s mc ms free) (entryFrame m args (mL md))) : vx_Met l (mY md) (wsK md) rm Pc Qc XC mc ms free := by
  by_cases hT : mT md = []
  · have hw : wsK md = Cond.code (mY md) (mC md) (mL md) (mR md) :: WG := by unfold wsK; rw [if_pos hT]
    refine MetFree.of_bodySF (code := mC md) (maxLocals := mL md) (ret := mR md) hf.1 ?_ ?_
    · intro args s m h hn
      obtain ⟨meth, c, h1, h2, h3, h4, h5, h6, -, -⟩ := Cond.code_spec hn (atoms_spec (ws := wsK md) h _ (by rw [hw]; exact List.mem_cons_self))
      exact ⟨meth, c, h1, h2, h3, h4, h5, h6⟩
    · intro p e s m args below meth c s₁ B hml hP _
      have hh0 : s₁.heap = s.heap := by rw [B.state]; rfl
      have ht : c.exceptionTable.toList = tableOf (mT md) := by
        obtain ⟨meth9, c9, h1, h2, -, -, -, -, h7, -⟩ := Cond.code_spec B.named (atoms_spec (ws := wsK md) B.pre _ (by rw [hw]; exact List.mem_cons_self))
        cases Option.some.inj (h1.symm.trans B.method)
        cases Option.some.inj (h2.symm.trans (Stand.of_body B).code)
        rw [Array.isEmpty_iff.mp h7, hT]
        rfl
      obtain ⟨t, a1, o, b1, b2, b3⟩ := body p e s m args below meth c s₁ B hml ht hP s₁ hh0 (Stand.of_body B)
      exact ⟨t, o, a1, b1, b2, b3⟩
  · have hw : wsK md = Cond.codeWith (mY md) (mC md) (mL md) (mR md) (mT md) :: WG := by unfold wsK; rw [if_neg hT]
    refine MetFree.of_bodySF (code := mC md) (maxLocals := mL md) (ret := mR md) hf.1 ?_ ?_
    · intro args s m h hn
      obtain ⟨m9, meth, c, hn9, h1, h2, h3, h4, -, h5, h6, -⟩ := Cond.codeWith_spec (atoms_spec (ws := wsK md) h _ (by rw [hw]; exact List.mem_cons_self))
      cases hn.symm.trans hn9
      exact ⟨meth, c, h1, h2, h3, h4, h5, h6⟩
    · intro p e s m args below meth c s₁ B hml hP _
      have hh0 : s₁.heap = s.heap := by rw [B.state]; rfl
      have ht : c.exceptionTable.toList = tableOf (mT md) := vx_table (x := mY md) B (atoms_spec (ws := wsK md) B.pre _ (by rw [hw]; exact List.mem_cons_self))
      obtain ⟨t, a1, o, b1, b2, b3⟩ := body p e s m args below meth c s₁ B hml ht hP s₁ hh0 (Stand.of_body B)
      exact ⟨t, o, a1, b1, b2, b3⟩
section RET
variable {p : Program} {l : Launch} {e : Env} {R : Room} {s : State} {m : MethodId} {args : Array Value} {below : List Frame} {meth : Method} {c : Code} {D : va_G} {cA : Nat → ClassId} {A : Nat → Prop} {P : ac_P}
variable {cc : ByteArray} {own : Nat} {isI : Bool} {tr : Nat} {nL : Nat} {sp : List Nat} {ga adV : Nat → Nat} {L : Nat} {xs : Nat → Int32} {mb : Nat × Nat} {rt : Option FieldType}
theorem ret_all (hx : p.tables.exec = Jvm.exec) (hb : c.code = cc) (hr : meth.sig.returnType = rt) (hlocks : meth.locks = false) (pc : Nat) (h : ac_H) (bg : Nat × Nat) (H : Heap) (locs : List Loc) (la : Array Slot) (v : Option Value) (ri : Instr) (hd : decode cc pc = .ok (ri, 1)) (hv : retOK rt ri v) (hP : P (.inl v) h) (hR : xRel D cA A h H) (hS : va_S A s.heap H locs) (hbb : bgle bg mb) : W p l e R s m args below meth c H locs bg.1 bg.2 (vx_MQ below (QcP D cA A P) (XcP D cA A P) args s mb.1 mb.2 A) (F0 m pc la v.toList) := by
  have hq : ∀ t : State, t.heap = H → QcP D cA A P args s (.returned v) t := fun t ht => ⟨⟨v, h, rfl, hP, by rw [ht]; exact hR⟩, F_of_S hS (by rw [ht]; exact Nat.le_refl _) (fun q _ => by rw [ht])⟩
  refine W.widen hbb.1 hbb.2 (vx_ret ?_)
  rcases hv with ⟨rfl, x, rfl, hn⟩ | ⟨rfl, x, rfl, hn⟩ | ⟨rfl, x, rfl, hn⟩ | ⟨rfl, rfl, hn⟩
  · cases rt with
    | none => exact False.elim hn
    | some ty => exact W.zret hx hb hr hn (fun t ht _ => hq t ht) hS.2.2 hd hlocks
  · subst hn
    exact W.lret hx hb hr (fun t ht _ => hq t ht) hS.2.2 hd hlocks
  · rcases hn with ⟨n, rfl⟩ | ⟨n, rfl⟩
    · exact W.aret hx hb hr (Or.inl ⟨n, rfl⟩) (Or.inr ⟨x, rfl⟩) (fun t ht _ => hq t ht) hS.2.2 hd hlocks
    · exact W.aret hx hb hr (Or.inr ⟨n, rfl⟩) (Or.inr ⟨x, rfl⟩) (fun t ht _ => hq t ht) hS.2.2 hd hlocks
  · subst hn
    exact W.vret hx hb hr (fun t ht _ => hq t ht) hS.2.2 hd hlocks
theorem split_at {α : Type} : ∀ (l : List α) (i : Nat) (x : α), l[i]? = some x → ∃ suf, l = l.take i ++ x :: suf
  | [], i, x, h => by simp at h
  | a :: l, 0, x, h => by
    cases h
    exact ⟨l, rfl⟩
  | a :: l, i + 1, x, h => by
    obtain ⟨suf, hs⟩ := split_at l i x h
    exact ⟨suf, by rw [List.take_succ_cons, List.cons_append, ← hs]⟩
theorem lookup_at {β : Type} : ∀ (l : List (Nat × β)) (k : Nat), (∀ b, l.lookup k = some b → ∃ i, l[i]? = some (k, b) ∧ ∀ (j : Nat) (q : Nat × β), j < i → l[j]? = some q → ¬ q.1 = k) ∧ (l.lookup k = none → ∀ (j : Nat) (q : Nat × β), l[j]? = some q → ¬ q.1 = k)
  | [], k => ⟨fun b h => (nomatch h), fun _ j q h => (nomatch h)⟩
  | (k0, b0) :: l, k => by
    obtain ⟨h1, h2⟩ := lookup_at l k
    by_cases e : k = k0
    · subst e
      refine ⟨fun b h => ⟨0, ?_, fun j q hj _ => by omega⟩, fun h => ?_⟩
      · simp [List.lookup] at h
        rw [h]; rfl
      · simp [List.lookup] at h
    · have e1 : (k == k0) = false := by simpa using e
      refine ⟨fun b h => ?_, fun h j q hj => ?_⟩
      · rw [List.lookup, e1] at h
        obtain ⟨i, hi, hn⟩ := h1 b h
        refine ⟨i + 1, hi, fun j q hj hq => ?_⟩
        cases j with
        | zero =>
          cases hq
          exact fun z => e z.symm
        | succ j => exact hn j q (by omega) hq
      · rw [List.lookup, e1] at h
        cases j with
        | zero =>
          cases hj
          exact fun z => e z.symm
        | succ j => exact h2 h j q hj
theorem hnd_at {k : Nat} {md : ac_M} (hm : methods[k]? = some md) (hT : ¬ mT md = []) : (mH md).length = (mT md).length ∧ 0 < trE md ∧ mR md = some .int ∧ ∀ i, i < (mT md).length → ∃ s e t ct kk c x, (mT md)[i]? = some (s, e, t, ct) ∧ (mH md)[i]? = some (kk, c) ∧ s = 0 ∧ e = trE md ∧ kk < 4 ∧ ¬ ct = 0 ∧ Cond.classLink (oR (mO md)) ct (exN kk) ∈ WG ∧ ∃ y, rowOK (mO md) (decide ((mY md).name = "<init>")) (trE md) (mL md) (starts md) (mC md) t [(.astore x, y), (.sipush c, 1), (.ireturn, 1)] = true := by
  have hk : k < 297 := by
    have := (List.getElem?_eq_some_iff.mp hm).1
    rw [methods_len] at this
    exact this
  have h1 := List.all_eq_true.mp hnd_ok k (List.mem_range.mpr hk)
  rw [hm] at h1
  have h1 : hndOK k md = true := h1
  unfold hndOK at h1
  split at h1
  · exact absurd (of_decide_eq_true h1) hT
  · rename_i l _
    simp only [Bool.and_eq_true, decide_eq_true_eq] at h1
    obtain ⟨⟨⟨⟨a1, a2⟩, a3⟩, a4⟩, a5⟩ := h1
    refine ⟨a2, a3, a4, fun i hi => ?_⟩
    have h2 := List.all_eq_true.mp a5 i (List.mem_range.mpr (by omega))
    split at h2
    · rename_i x _
      unfold hndE at h2
      split at h2
      · rename_i s e t ct kk c9 e1 e2
        simp only [Bool.and_eq_true, decide_eq_true_eq] at h2
        obtain ⟨⟨⟨⟨⟨b1, b2⟩, b3⟩, b4⟩, b5⟩, b6⟩ := h2
        exact ⟨s, e, t, ct, kk, c9, x.1, e1, e2, b1, b2, b3, b4, wg_in b5 rfl, _, b6⟩
      · cases h2
    · cases h2
theorem thr_all {k0 : Nat} {md : ac_M} (hm : methods[k0]? = some md) (hx : p.tables.exec = Jvm.exec) (hb : c.code = mC md) (hr : meth.sig.returnType = mR md) (hts : ∀ w ∈ WG, w.before args s = true) (hown : s.vm.findClass (oR (mO md)) = some m.cls) (hG : GBt D cA A ga adV L xs s) (hlocks : meth.locks = false) (htab : c.exceptionTable.toList = tableOf (mT md)) (hH : mT md = [] → mH md = [])
    (k pc : Nat) (h : ac_H) (bg : Nat × Nat) (H : Heap) (locs : List Loc) (la : Array Slot) (rest : List Value) (q : Addr) (ce : Cell) (hk : k < 4) (htr : trE md = 0 ∨ pc < trE md) (hP : match (mH md).lookup k with | some c9 => P (.inl (some (.int (kI c9)))) h | none => P (.inr k) h) (hR : xRel D cA A h H) (hS : va_S A s.heap H locs) (hbb : bgle bg (mB md)) (hla : lv_has la (mL md) []) (hce : H[q]? = some ce) (hcv : ce.vm = .none) (hcl : s.vm.findClass (exN k) = some ce.cls) :
    vx_W p l e R s m args below meth c H locs bg.1 bg.2 (vx_MQ below (QcP D cA A P) (XcP D cA A P) args s (mB md).1 (mB md).2 A) (F0 m pc la rest) q := by
  have hXC : ∀ (t : State), P (.inr k) h → t.heap = H → XcP D cA A P (exN k) s t := fun t hp ht => ⟨⟨k, h, hk, rfl, hp, by rw [ht]; exact hR⟩, F_of_S hS (by rw [ht]; exact Nat.le_refl _) (fun q _ => by rw [ht])⟩
  by_cases hT : mT md = []
  · rw [hH hT] at hP
    have hP : P (.inr k) h := hP
    refine vx_out (E := exN k) (ce := ce) (fun x hx9 => ?_) hlocks hce hcv hcl (fun t ht _ => hXC t hP ht) hS.2.2 hbb.1 hbb.2
    rw [htab, hT] at hx9
    cases hx9
  · obtain ⟨hlen, h0, hrt, hent⟩ := hnd_at hm hT
    have hpc : pc < trE md := by omega
    obtain ⟨hl1, hl2⟩ := lookup_at (mH md) k
    have htl : ∀ (j : Nat) (z : ExceptionTableEntry), (tableOf (mT md))[j]? = some z → ∃ kk c9, (mH md)[j]? = some (kk, c9) ∧ kk < 4 ∧ ¬ z.catchType = 0 ∧ (Cond.classLink (oR (mO md)) z.catchType (exN kk)).before args s = true := by
      intro j z hz
      unfold tableOf at hz
      rw [List.getElem?_map] at hz
      cases hj : (mT md)[j]? with
      | none => rw [hj] at hz; cases hz
      | some y =>
        rw [hj] at hz
        cases hz
        have hjl := (List.getElem?_eq_some_iff.mp hj).1
        obtain ⟨s1, e1, t1, ct1, kk, c9, x9, f1, f2, f3, f4, f5, f6, f7, f8⟩ := hent j hjl
        cases Option.some.inj (hj.symm.trans f1)
        exact ⟨kk, c9, f2, f5, f6, hts _ f7⟩
    obtain ⟨g1, -, -, -, -, -, -, -, -, -, -, g13, -, g15⟩ := hG
    cases hlk : (mH md).lookup k with
    | none =>
      rw [hlk] at hP
      refine vx_outP (own := oR (mO md)) (E := exN k) (ce := ce) hown hlocks (fun z hz => ?_) hce hcv hcl (fun t ht _ => hXC t hP ht) hS.2.2 hbb.1 hbb.2
      rw [htab] at hz
      obtain ⟨j, hj⟩ := List.getElem?_of_mem hz
      obtain ⟨kk, c9, f2, f5, f6, f7⟩ := htl j z hj
      exact Or.inr ⟨f6, exN kk, f7, g15 k kk hk f5 (fun e => hl2 hlk j _ f2 e.symm)⟩
    | some c9 =>
      rw [hlk] at hP
      have hP : P (.inl (some (.int (kI c9)))) h := hP
      obtain ⟨i, hi, hn⟩ := hl1 c9 hlk
      have hil : i < (mT md).length := by
        have := (List.getElem?_eq_some_iff.mp hi).1
        omega
      obtain ⟨s1, e1, t1, ct1, kk, c8, x9, f1, f2, rfl, rfl, f5, f6, f7, y9, f8⟩ := hent i hil
      cases Option.some.inj (hi.symm.trans f2)
      have hxi : (tableOf (mT md))[i]? = some ⟨0, trE md, t1, ct1⟩ := by
        unfold tableOf
        rw [List.getElem?_map, f1]
        rfl
      obtain ⟨suf, hsuf⟩ := split_at _ i _ hxi
      refine vx_catch (own := oR (mO md)) (name := exN k) (E := exN k) (ce := ce) hown ((tableOf (mT md)).take i) ⟨0, trE md, t1, ct1⟩ suf (by rw [htab]; exact hsuf) (fun z hz => ?_) ?_ f6 (hts _ f7) (va_Nw.use rfl (g13 k hk)) hce hcv hcl ?_
      · obtain ⟨j, hj⟩ := List.getElem?_of_mem hz
        rw [List.getElem?_take] at hj
        split at hj
        · rename_i hji
          obtain ⟨kk, c7, e2, e5, e6, e7⟩ := htl j z hj
          exact Or.inr ⟨e6, exN kk, e7, g15 k kk hk e5 (fun e => hn j _ hji e2 e.symm)⟩
        · cases hj
      · show (decide (0 ≤ pc) && decide (pc < trE md)) = true
        simp [hpc]
      · have hX : xR p l e R s m args below meth c (vx_MQ below (QcP D cA A P) (XcP D cA A P) args s (mB md).1 (mB md).2 A) D cA A (mL md) (mB md) t1 [] [.ref q] h bg := by
          refine s_astore (call := fun _ _ _ _ => False) (cs := cst) (ga := ga) (L := L) (xs := xs) (sl := sl) (hands := mH md) (rt := mR md) (Q := P) (J := fun _ _ _ _ _ => False) hx hb (fun pc1 ls1 st1 h1 bg1 hw1 hx1 => s_sipush hx hb hts hown g1 (fun pc2 ls2 st2 h2 bg2 hw2 hx2 => s_ireturn hx hb hts hown g1 (fun pc3 h3 bg3 H3 locs3 la3 v3 ri3 hd3 hv3 hp3 hr3 hs3 hb3 => ret_all hx hb hr hlocks pc3 h3 bg3 H3 locs3 la3 v3 ri3 hd3 hv3 hp3 hr3 hs3 hb3) hw2 hx2) hw1 hx1) f8 ?_
          simp only [xB]
          refine ⟨?_, ?_, hP⟩
          · cases x9 <;> rfl
          · rw [hrt]; rfl
        exact hX hbb H locs la hR hS hla
end RET
end
section
/-! ===== the abstract program's contracts are the machine's ===== -/
theorem GBt.calling {D : va_G} {cA : Nat → ClassId} {A : Nat → Prop} {ga adV : Nat → Nat} {L : Nat} {xs : Nat → Int32} {a : Array Value} {U : State} {g : JFrame} {mk : MethodId} (h : GBt D cA A ga adV L xs U) : GBt D cA A ga adV L xs (U.calling g mk a) :=
  h.moved (U := U.calling g mk a) (State.WarmedH.refl U) (Nat.le_refl _) (fun _ _ _ => rfl)
theorem ckAll {m : ac_M} (hm : m ∈ methods) : codeOK m = true := by
  unfold methods at hm
  rcases List.mem_append.mp hm with hm | hm
  · exact ck0 m hm
  rcases List.mem_append.mp hm with hm | hm
  · exact ck1 m hm
  rcases List.mem_append.mp hm with hm | hm
  · exact ck2 m hm
  rcases List.mem_append.mp hm with hm | hm
  · exact ck3 m hm
  rcases List.mem_append.mp hm with hm | hm
  · exact ck4 m hm
  rcases List.mem_append.mp hm with hm | hm
  · exact ck5 m hm
  rcases List.mem_append.mp hm with hm | hm
  · exact ck6 m hm
  rcases List.mem_append.mp hm with hm | hm
  · exact ck7 m hm
  rcases List.mem_append.mp hm with hm | hm
  · exact ck8 m hm
  rcases List.mem_append.mp hm with hm | hm
  · exact ck9 m hm
  exact ck10 m hm
theorem row_of {m : ac_M} (h : codeOK m = true) {b pb : Nat} {is : ac_I} (hb : (mS m)[b]? = some (pb, is)) : rowOK (mO m) (decide ((mY m).name = "<init>")) (trE m) (mL m) (starts m) (mC m) pb is = true := List.all_eq_true.mp h _ (List.mem_of_getElem? hb)
theorem starts_at {m : ac_M} {b pb : Nat} {is : ac_I} (hb : (mS m)[b]? = some (pb, is)) : (starts m)[b]? = some pb := by
  unfold starts
  rw [List.getElem?_map, hb]
  rfl
set_option maxHeartbeats 4000000 in
theorem sound {l : Launch} (hlt : l.stackTraces = false) {D : va_G} {cA : Nat → ClassId} {A : Nat → Prop} {ga adV : Nat → Nat} {L : Nat} {xs : Nat → Int32} : ∀ (d k : Nat) (md : ac_M) (as : List Value) (h : ac_H) (P : ac_P), methods[k]? = some md → WP ga L xs d k as h P → xMet l D cA A (GBt D cA A ga adV L xs) (8 + d) (200 + 64 * d) md as h P
  | 0, k, md, as, h, P, _, hw => False.elim hw
  | d + 1, k, md, as, h, P, hm, hw => by
    obtain ⟨md2, hm2, hlen, hw⟩ := hw
    cases Option.some.inj (hm.symm.trans hm2)
    have hmem := List.mem_of_getElem? hm
    have hf := mFacts_of hmem
    obtain ⟨ho1, ho2, ho3⟩ := m_own md hmem
    refine of_both hf ?_
    intro p e s m args below meth c s₁ B hml htab hPc
    obtain ⟨rfl, hG, hR⟩ := hPc
    have hts : ∀ w ∈ WG, w.before as.toArray s = true := fun w h9 => atoms_spec (ws := wsK md) B.pre w (List.mem_cons_of_mem _ h9)
    have hown : s.vm.findClass (oR (mO md)) = some m.cls := by rw [ho1]; exact findClass_of_methodNamed B.named
    have hall := xB_all (p := p) (l := l) (e := e) (R := rmK (8 + (d + 1)) (200 + 64 * (d + 1)) md) (s := s) (m := m) (args := as.toArray) (below := below) (meth := meth) (c := c) (Z := vx_MQ below (QcP D cA A P) (XcP D cA A P) as.toArray s (mB md).1 (mB md).2 A) (D := D) (cA := cA) (A := A) (cc := mC md) (own := mO md) (isI := decide ((mY md).name = "<init>")) (tr := trE md) (nL := mL md) (sp := starts md) (call := WP ga L xs d) (ga := ga) (L := L) (xs := xs) (mb := mB md) (hands := mH md) (rt := mR md) (Q := P) (adV := adV)
      (J := fun b ls st h bg => ∃ t, (starts md)[b]? = some t ∧ xR p l e (rmK (8 + (d + 1)) (200 + 64 * (d + 1)) md) s m as.toArray below meth c (vx_MQ below (QcP D cA A P) (XcP D cA A P) as.toArray s (mB md).1 (mB md).2 A) D cA A (mL md) (mB md) t ls st h bg)
      B.exec B.bytes hts hown hG.1 hG.2.1.1 hG.2.1.2.1 hG.2.1.2.2 hG.2.2.1.1 hG.2.2.1.2 hG.2.2.2.1 hG.2.2.2.2.1 hG.2.2.2.2.2.1 hG.2.2.2.2.2.2.1 hG.2.2.2.2.2.2.2.1.1 hG.2.2.2.2.2.2.2.1.2.1 hG.2.2.2.2.2.2.2.1.2.2 hG.2.2.2.2.2.2.2.2.1
      (fun hi => (name_of_methodNamed B.named B.method).1.trans (of_decide_eq_true hi)) (by show 200 ≤ 200 + 64 * (d + 1); omega) (by show 8 ≤ 8 + (d + 1); omega)
      (GB := GBt D cA A ga adV L xs) (F := 8 + d) (Lc := 200 + 64 * d)
      (fun H locs U hS hU hW => hG.moved hW (by rw [hU]; exact hS.1) (fun a h1 h2 => by rw [hU]; exact hS.2.1 a h1 h2)) (fun a U g mk hU => hU.calling)
      ⟨by show 8 + d + 1 ≤ 8 + (d + 1); omega, fun md9 hm9 => by have := (m_own md9 hm9).2.1; show 8 + (mL md9 + 11) + (200 + 64 * d) ≤ 200 + 64 * (d + 1); omega⟩ ⟨Nat.le_refl _, Nat.le_refl _⟩ hml hG.2.2.2.2.2.2.2.2.2.1
      (fun k9 md9 as9 h9 P9 e9 w9 => sound hlt d k9 md9 as9 h9 P9 e9 w9)
      (fun k pc h bg H locs la rest q ce hk htr hP hR hS hbb hla hce hcv hcl => thr_all hm B.exec B.bytes B.returns hts hown hG B.notSynchronized htab hf.2.2.2.2.2.2.2.2.2.2 k pc h bg H locs la rest q ce hk htr hP hR hS hbb hla hce hcv hcl)
      (fun k ik ic i pc h bg H locs la st hq d0 d3 d4 d7 htr hbb hst hk hP hR hS hla => th_all (tr := trE md) B.exec B.bytes hlt hts hown hG B.notSynchronized hml (fun e9 x hx9 => by
        rw [htab] at hx9
        by_cases hT : mT md = []
        · rw [hT] at hx9; cases hx9
        · have := (hnd_at hm hT).2.1
          omega) (by show 8 ≤ 8 + (d + 1); omega) (by show 200 ≤ 200 + 64 * (d + 1); omega) ⟨Nat.le_refl _, Nat.le_refl _⟩ k ik ic i pc h bg H locs la st hq d0 d3 d4 d7 htr hbb hst hk hP hR hS hla)
      (fun pc h bg H locs la v ri hd hv hP hR hS hbb => ret_all B.exec B.bytes B.returns B.notSynchronized pc h bg H locs la v ri hd hv hP hR hS hbb)
      (fun b t hb ls st h bg hJ => by
        obtain ⟨t9, e9, hX⟩ := hJ
        cases Option.some.inj (hb.symm.trans e9)
        exact hX)
    obtain ⟨t, ht, hX⟩ := hw (fun b ls st h bg => ∃ t, (starts md)[b]? = some t ∧ xR p l e (rmK (8 + (d + 1)) (200 + 64 * (d + 1)) md) s m as.toArray below meth c (vx_MQ below (QcP D cA A P) (XcP D cA A P) as.toArray s (mB md).1 (mB md).2 A) D cA A (mL md) (mB md) t ls st h bg) (fun b pb is hb ls st h bg hxb => ⟨pb, starts_at hb, hall is pb ls st h bg (row_of (ckAll hmem) hb) hxb⟩)
    cases Option.some.inj (ht.symm.trans ho3)
    have hl := lv_entry as (n := mL md) (by rw [lg_len]; exact hlen)
    rw [lg_entry_eq]
    exact hX ⟨Nat.zero_le _, Nat.zero_le _⟩ s.heap [] _ hR va_S.rf (lv_ent hl)
end
section
/-! ===== the world: cells by number ===== -/
abbrev Wst : Type := (Nat → Nat → Int32) × (Nat → Nat → Nat) × (Nat → Nat → Int32) × (Nat → Nat → Int64)
def wn (w : Wst) : Nat → Nat → Int32 := w.1
def wr (w : Wst) : Nat → Nat → Nat := w.2.1
def wa (w : Wst) : Nat → Nat → Int32 := w.2.2.1
def wl (w : Wst) : Nat → Nat → Int64 := w.2.2.2
def sn (w : Wst) (i j : Nat) (x : Int32) : Wst := (fun a b => if a = i ∧ b = j then x else wn w a b, w.2)
def sr (w : Wst) (i j : Nat) (x : Nat) : Wst := (w.1, fun a b => if a = i ∧ b = j then x else wr w a b, w.2.2)
def sa (w : Wst) (i : Nat) (f : Nat → Int32) : Wst := (w.1, w.2.1, fun a => if a = i then f else wa w a, w.2.2.2)
def sv (w : Wst) (i : Nat) (f : Nat → Int64) : Wst := (w.1, w.2.1, w.2.2.1, fun a => if a = i then f else wl w a)
theorem wn_sn (w : Wst) (i j : Nat) (x : Int32) (a b : Nat) : wn (sn w i j x) a b = if a = i ∧ b = j then x else wn w a b := rfl
theorem wr_sn (w : Wst) (i j : Nat) (x : Int32) : wr (sn w i j x) = wr w := rfl
theorem wa_sn (w : Wst) (i j : Nat) (x : Int32) : wa (sn w i j x) = wa w := rfl
theorem wl_sn (w : Wst) (i j : Nat) (x : Int32) : wl (sn w i j x) = wl w := rfl
theorem wn_sr (w : Wst) (i j x : Nat) : wn (sr w i j x) = wn w := rfl
theorem wr_sr (w : Wst) (i j x : Nat) (a b : Nat) : wr (sr w i j x) a b = if a = i ∧ b = j then x else wr w a b := rfl
theorem wa_sr (w : Wst) (i j x : Nat) : wa (sr w i j x) = wa w := rfl
theorem wl_sr (w : Wst) (i j x : Nat) : wl (sr w i j x) = wl w := rfl
theorem wn_sa (w : Wst) (i : Nat) (f : Nat → Int32) : wn (sa w i f) = wn w := rfl
theorem wr_sa (w : Wst) (i : Nat) (f : Nat → Int32) : wr (sa w i f) = wr w := rfl
theorem wa_sa (w : Wst) (i : Nat) (f : Nat → Int32) (a : Nat) : wa (sa w i f) a = if a = i then f else wa w a := rfl
theorem wl_sa (w : Wst) (i : Nat) (f : Nat → Int32) : wl (sa w i f) = wl w := rfl
theorem wn_sv (w : Wst) (i : Nat) (f : Nat → Int64) : wn (sv w i f) = wn w := rfl
theorem wr_sv (w : Wst) (i : Nat) (f : Nat → Int64) : wr (sv w i f) = wr w := rfl
theorem wa_sv (w : Wst) (i : Nat) (f : Nat → Int64) : wa (sv w i f) = wa w := rfl
theorem wl_sv (w : Wst) (i : Nat) (f : Nat → Int64) (a : Nat) : wl (sv w i f) a = if a = i then f else wl w a := rfl
def shT : List (Nat × Nat × Nat) := [(0, 6, 0), (2, 0, 0), (2, 0, 0), (2, 0, 0), (2, 0, 0), (2, 0, 0), (2, 0, 0), (2, 0, 0), (2, 0, 0), (2, 0, 0), (0, 0, 0), (1, 0, 12), (1, 0, 12), (1, 0, 12), (1, 0, 60), (0, 0, 0), (1, 0, 12), (1, 0, 12), (1, 0, 12), (1, 0, 60), (0, 0, 0), (1, 0, 12), (1, 0, 12), (1, 0, 12), (1, 0, 60), (0, 0, 0), (1, 0, 12), (1, 0, 12), (1, 0, 12), (1, 0, 60), (0, 0, 0), (1, 0, 12), (1, 0, 12), (1, 0, 12), (1, 0, 60), (0, 0, 0), (1, 0, 12), (1, 0, 12), (1, 0, 12), (1, 0, 60), (0, 1, 0), (1, 0, 12), (0, 2, 0), (1, 3, 700), (0, 4, 0), (1, 0, 12), (1, 4, 13), (1, 0, 14), (1, 0, 14), (1, 0, 14), (1, 0, 14), (1, 0, 14), (1, 0, 14), (1, 0, 14), (1, 0, 14), (1, 0, 14), (1, 0, 14), (1, 0, 14), (1, 0, 14), (1, 0, 14), (0, 5, 0), (1, 0, 8), (1, 5, 4), (0, 3, 0), (1, 1, 60), (0, 3, 0), (1, 1, 60), (0, 3, 0), (1, 1, 60), (0, 3, 0), (1, 1, 60), (1, 6, 3), (1, 2, 3), (1, 0, 401), (1, 1, 13), (2, 0, 0), (2, 0, 0), (2, 0, 0), (2, 0, 0), (2, 0, 0), (0, 7, 0), (1, 0, 114), (1, 0, 114), (1, 0, 342), (1, 2, 3), (1, 0, 700), (1, 0, 480), (1, 0, 12), (1, 0, 182), (1, 0, 8), (1, 0, 3), (1, 1, 14), (1, 0, 401), (1, 0, 4), (1, 0, 4), (1, 1, 240), (1, 1, 1)]
def shp (i : Nat) : Nat × Nat × Nat := shT.getD i (2, 0, 0)
theorem shp_0 : shp 0 = (0, 6, 0) := rfl
theorem shp_10 : shp 10 = (0, 0, 0) := rfl
theorem shp_11 : shp 11 = (1, 0, 12) := rfl
theorem shp_12 : shp 12 = (1, 0, 12) := rfl
theorem shp_13 : shp 13 = (1, 0, 12) := rfl
theorem shp_14 : shp 14 = (1, 0, 60) := rfl
theorem shp_15 : shp 15 = (0, 0, 0) := rfl
theorem shp_16 : shp 16 = (1, 0, 12) := rfl
theorem shp_17 : shp 17 = (1, 0, 12) := rfl
theorem shp_18 : shp 18 = (1, 0, 12) := rfl
theorem shp_19 : shp 19 = (1, 0, 60) := rfl
theorem shp_20 : shp 20 = (0, 0, 0) := rfl
theorem shp_21 : shp 21 = (1, 0, 12) := rfl
theorem shp_22 : shp 22 = (1, 0, 12) := rfl
theorem shp_23 : shp 23 = (1, 0, 12) := rfl
theorem shp_24 : shp 24 = (1, 0, 60) := rfl
theorem shp_25 : shp 25 = (0, 0, 0) := rfl
theorem shp_26 : shp 26 = (1, 0, 12) := rfl
theorem shp_27 : shp 27 = (1, 0, 12) := rfl
theorem shp_28 : shp 28 = (1, 0, 12) := rfl
theorem shp_29 : shp 29 = (1, 0, 60) := rfl
theorem shp_30 : shp 30 = (0, 0, 0) := rfl
theorem shp_31 : shp 31 = (1, 0, 12) := rfl
theorem shp_32 : shp 32 = (1, 0, 12) := rfl
theorem shp_33 : shp 33 = (1, 0, 12) := rfl
theorem shp_34 : shp 34 = (1, 0, 60) := rfl
theorem shp_35 : shp 35 = (0, 0, 0) := rfl
theorem shp_36 : shp 36 = (1, 0, 12) := rfl
theorem shp_37 : shp 37 = (1, 0, 12) := rfl
theorem shp_38 : shp 38 = (1, 0, 12) := rfl
theorem shp_39 : shp 39 = (1, 0, 60) := rfl
theorem shp_40 : shp 40 = (0, 1, 0) := rfl
theorem shp_41 : shp 41 = (1, 0, 12) := rfl
theorem shp_42 : shp 42 = (0, 2, 0) := rfl
theorem shp_43 : shp 43 = (1, 3, 700) := rfl
theorem shp_44 : shp 44 = (0, 4, 0) := rfl
theorem shp_45 : shp 45 = (1, 0, 12) := rfl
theorem shp_46 : shp 46 = (1, 4, 13) := rfl
theorem shp_47 : shp 47 = (1, 0, 14) := rfl
theorem shp_48 : shp 48 = (1, 0, 14) := rfl
theorem shp_49 : shp 49 = (1, 0, 14) := rfl
theorem shp_50 : shp 50 = (1, 0, 14) := rfl
theorem shp_51 : shp 51 = (1, 0, 14) := rfl
theorem shp_52 : shp 52 = (1, 0, 14) := rfl
theorem shp_53 : shp 53 = (1, 0, 14) := rfl
theorem shp_54 : shp 54 = (1, 0, 14) := rfl
theorem shp_55 : shp 55 = (1, 0, 14) := rfl
theorem shp_56 : shp 56 = (1, 0, 14) := rfl
theorem shp_57 : shp 57 = (1, 0, 14) := rfl
theorem shp_58 : shp 58 = (1, 0, 14) := rfl
theorem shp_59 : shp 59 = (1, 0, 14) := rfl
theorem shp_60 : shp 60 = (0, 5, 0) := rfl
theorem shp_61 : shp 61 = (1, 0, 8) := rfl
theorem shp_62 : shp 62 = (1, 5, 4) := rfl
theorem shp_63 : shp 63 = (0, 3, 0) := rfl
theorem shp_64 : shp 64 = (1, 1, 60) := rfl
theorem shp_65 : shp 65 = (0, 3, 0) := rfl
theorem shp_66 : shp 66 = (1, 1, 60) := rfl
theorem shp_67 : shp 67 = (0, 3, 0) := rfl
theorem shp_68 : shp 68 = (1, 1, 60) := rfl
theorem shp_69 : shp 69 = (0, 3, 0) := rfl
theorem shp_70 : shp 70 = (1, 1, 60) := rfl
theorem shp_71 : shp 71 = (1, 6, 3) := rfl
theorem shp_72 : shp 72 = (1, 2, 3) := rfl
theorem shp_73 : shp 73 = (1, 0, 401) := rfl
theorem shp_74 : shp 74 = (1, 1, 13) := rfl
theorem shp_80 : shp 80 = (0, 7, 0) := rfl
theorem shp_81 : shp 81 = (1, 0, 114) := rfl
theorem shp_82 : shp 82 = (1, 0, 114) := rfl
theorem shp_83 : shp 83 = (1, 0, 342) := rfl
theorem shp_84 : shp 84 = (1, 2, 3) := rfl
theorem shp_85 : shp 85 = (1, 0, 700) := rfl
theorem shp_86 : shp 86 = (1, 0, 480) := rfl
theorem shp_87 : shp 87 = (1, 0, 12) := rfl
theorem shp_88 : shp 88 = (1, 0, 182) := rfl
theorem shp_89 : shp 89 = (1, 0, 8) := rfl
theorem shp_90 : shp 90 = (1, 0, 3) := rfl
theorem shp_91 : shp 91 = (1, 1, 14) := rfl
theorem shp_92 : shp 92 = (1, 0, 401) := rfl
theorem shp_93 : shp 93 = (1, 0, 4) := rfl
theorem shp_94 : shp 94 = (1, 0, 4) := rfl
theorem shp_95 : shp 95 = (1, 1, 240) := rfl
theorem shp_96 : shp 96 = (1, 1, 1) := rfl
/-- which fields hold references -/
def isRf (c j : Nat) : Bool := match c with
  | 0 => Nat.ble 10 j
  | 1 => j == 0 || j == 5
  | 2 => j == 0 || j == 8
  | 3 => j == 3
  | 4 => true
  | 5 => j == 0 || j == 1
  | 6 => true
  | _ => j == 0 || j == 1 || j == 2 || j == 3 || j == 5 || j == 16 || Nat.ble 19 j
/-- where they point: what is said by w may change -/
def rfx (w : Wst) (i j : Nat) : Nat := match (shp i).2.1 with
  | 0 => i + (j - 9)
  | 1 => if j = 0 then wr w i 0 else i + 1
  | 2 => if j = 0 then i + 1 else wr w i 8
  | 3 => i + 1
  | 4 => i + 1 + j
  | 5 => if j = 0 then i + 1 else wr w i 1
  | 6 => if j < 2 then wr w i j else [0, 0, 20, 42, 40, 44, 60, 62, 71, 72, 73, 74].getD j 0
  | _ => [81, 82, 83, 84, 0, 85, 0, 0, 0, 0, 0, 0, 0, 0, 0, 0, 86, 0, 0, 87, 88, 89, 90, 91, 92, 93, 94, 95].getD j 0
/-- what the arrays of references hold -/
def rax (i j : Nat) : Nat := if i = 46 then 47 + j else if i = 62 then 63 + 2 * j else 25 + 5 * j
def cellOf (ad : Nat → Nat) (w : Wst) (i : Nat) : ac_C := match shp i with
  | (0, c, _) => .inr (c, (List.range (nfl.getD c 0)).map (fun j => if isRf c j = true then .ref (ad (rfx w i j)) else .int (wn w i j)))
  | (_, t, n) => .inl (t, n, if t = 1 then .inr (.inl (wl w i)) else if t < 4 then .inl (wa w i) else .inr (.inr (.inr (.inr (fun j => if j < n then some (ad (rax i j)) else none)))))
theorem cellOf_eq {ad : Nat → Nat} {w w' : Wst} {i : Nat} (h1 : ∀ b, wn w' i b = wn w i b) (h2 : ∀ b, wr w' i b = wr w i b) (h3 : wa w' i = wa w i) (h4 : wl w' i = wl w i) : cellOf ad w' i = cellOf ad w i := by
  have h5 : ∀ j, rfx w' i j = rfx w i j := fun j => by
    unfold rfx
    simp only [h2]
  unfold cellOf
  simp only [h1, h3, h4, h5]
def WW (ad : Nat → Nat) (w : Wst) (h : ac_H) : Prop := (∀ i j, ad i = ad j → i = j) ∧ ∀ i, i < 97 → h (ad i) = some (cellOf ad w i)
theorem cellOf_obj {ad : Nat → Nat} {w : Wst} {i c : Nat} (hs : shp i = (0, c, 0)) : cellOf ad w i = .inr (c, (List.range (nfl.getD c 0)).map (fun j => if isRf c j = true then .ref (ad (rfx w i j)) else .int (wn w i j))) := by
  unfold cellOf
  rw [hs]
  rfl
theorem cellOf_arr {ad : Nat → Nat} {w : Wst} {i t n : Nat} (hs : shp i = (1, t, n)) : cellOf ad w i = .inl (t, n, if t = 1 then .inr (.inl (wl w i)) else if t < 4 then .inl (wa w i) else .inr (.inr (.inr (.inr (fun j => if j < n then some (ad (rax i j)) else none))))) := by
  unfold cellOf
  rw [hs]
  rfl
theorem WW.obj {ad : Nat → Nat} {w : Wst} {h : ac_H} (W : WW ad w h) {i c : Nat} (hi : i < 97) (hs : shp i = (0, c, 0)) : h (ad i) = some (.inr (c, (List.range (nfl.getD c 0)).map (fun j => if isRf c j = true then .ref (ad (rfx w i j)) else .int (wn w i j)))) := by
  rw [W.2 i hi, cellOf_obj hs]
theorem WW.iarr {ad : Nat → Nat} {w : Wst} {h : ac_H} (W : WW ad w h) {i n : Nat} (hi : i < 97) (hs : shp i = (1, 0, n)) : h (ad i) = some (.inl (0, n, .inl (wa w i))) := by
  rw [W.2 i hi, cellOf_arr hs]
  rfl
theorem WW.larr {ad : Nat → Nat} {w : Wst} {h : ac_H} (W : WW ad w h) {i n : Nat} (hi : i < 97) (hs : shp i = (1, 1, n)) : h (ad i) = some (.inl (1, n, .inr (.inl (wl w i)))) := by
  rw [W.2 i hi, cellOf_arr hs]
  rfl
theorem WW.barr {ad : Nat → Nat} {w : Wst} {h : ac_H} (W : WW ad w h) {i t n : Nat} (hi : i < 97) (hs : shp i = (1, t, n)) (ht : t = 2 ∨ t = 3) : h (ad i) = some (.inl (t, n, .inl (wa w i))) := by
  rw [W.2 i hi, cellOf_arr hs]
  rcases ht with rfl | rfl <;> rfl
theorem WW.up {ad : Nat → Nat} {w w' : Wst} {h : ac_H} (W : WW ad w h) {i : Nat} {c : ac_C} (hc : cellOf ad w' i = c) (ho : ∀ j, j ≠ i → cellOf ad w' j = cellOf ad w j) : WW ad w' (hup h (ad i) c) := by
  refine ⟨W.1, fun j hj => ?_⟩
  by_cases e : j = i
  · subst e
    rw [hup_self, hc]
  · rw [hup_ne (fun z => e (W.1 _ _ z)), ho j e]
    exact W.2 j hj
theorem isO_W {ad : Nat → Nat} {w : Wst} {h : ac_H} (W : WW ad w h) {i c : Nat} (hi : i < 97) (hs : shp i = (0, c, 0)) : isO h (some (.ref (ad i))) c := ⟨_, W.obj hi hs⟩
theorem okI {k : Nat} {x : Int32} (hf : fty k = .int) : okF k (.int x) := by
  unfold okF
  rw [hf]
  exact ⟨rfl, rfl⟩
theorem okB {k : Nat} {b : Bool} (hf : fty k = .boolean) : okF k (.int (if b = true then 1 else 0)) := by
  unfold okF
  rw [hf]
  cases b <;> exact ⟨rfl, rfl⟩
theorem gF_c {k : Nat} {h : ac_H} {a c : Nat} {fs : List Value} {v : Value} (ha : h a = some (.inr (c, fs))) (hc : c = k / 32) (hv : fs[k % 32]? = some v) : gF k h a = some v := by
  unfold gF
  rw [ha]
  show (if c = k / 32 then fs[k % 32]? else none) = some v
  rw [if_pos hc, hv]
theorem pF_c {k : Nat} {h : ac_H} {a c : Nat} {fs : List Value} {v : Value} (ha : h a = some (.inr (c, fs))) (hc : c = k / 32) (hv : k % 32 < fs.length) : pF k h a v = some (hup h a (.inr (c, fs.set (k % 32) v))) := by
  unfold pF
  rw [ha]
  show (if c = k / 32 ∧ k % 32 < fs.length then some (hup h a (.inr (c, fs.set (k % 32) v))) else none) = _
  rw [if_pos ⟨hc, hv⟩]
theorem map_set {α : Type} (n j : Nat) (f : Nat → α) (v : α) : ((List.range n).map f).set j v = (List.range n).map (fun b => if b = j then v else f b) := by
  apply List.ext_getElem?
  intro b
  by_cases hb : b < n
  · by_cases e : j = b
    · subst e
      rw [List.getElem?_set_self (by simpa using hb), List.getElem?_map, List.getElem?_range hb]
      simp
    · rw [List.getElem?_set_ne e, List.getElem?_map, List.getElem?_map, List.getElem?_range hb]
      simp [Ne.symm e]
  · rw [List.getElem?_eq_none (by simpa using hb), List.getElem?_eq_none (by simpa using hb)]
theorem vp_inN {j n : Nat} (hj : j < n) (hn : n ≤ 1000) : vp_in (kI j) n ∧ (kI (j : Int)).toNatClampNeg = j := by
  have h1 : (kI (j : Int)).toInt = j := by
    unfold kI
    rw [Int32.toInt_ofInt_of_le] <;> omega
  have h2 : (kI (j : Int)).toNatClampNeg = j := by
    show (kI (j : Int)).toInt.toNat = j
    rw [h1]
    rfl
  refine ⟨?_, h2⟩
  unfold vp_in
  rw [h2, Int32.lt_iff_toInt_lt, h1]
  show ¬ ((j : Int) < (0 : Int32).toInt ∨ n ≤ j)
  have : (0 : Int32).toInt = 0 := rfl
  omega
section STP
variable {call : Nat → List Value → ac_H → ac_P → Prop} {cs : Nat → Nat × Nat} {ga : Nat → Nat} {L : Nat} {xs : Nat → Int32} {sl : Nat → List Int32} {mb : Nat × Nat} {hands : List (Nat × Int)} {rt : Option FieldType} {Q : ac_P} {J : Nat → ac_X}
variable {is : ac_I} {ls : ac_L} {s : List Value} {h : ac_H} {bg : Nat × Nat} {z : Nat} {ad : Nat → Nat} {w : Wst}
theorem x_sipush {n : Int} (kk : xB call cs ga L xs sl mb hands rt Q J is ls (.int (kI n) :: s) h bg) : xB call cs ga L xs sl mb hands rt Q J ((.sipush n, z) :: is) ls s h bg := by
  simp only [xB]
  exact kk
theorem x_iload {n : Nat} {x : Int32} (hg : gI ls n = some (.int x)) (kk : xB call cs ga L xs sl mb hands rt Q J is ls (.int x :: s) h bg) : xB call cs ga L xs sl mb hands rt Q J ((.iload n, z) :: is) ls s h bg := by
  simp only [xB, hg]
  exact kk
theorem x_lload {n : Nat} {x : Int64} (hg : gI ls n = some (.long x)) (kk : xB call cs ga L xs sl mb hands rt Q J is ls (.long x :: s) h bg) : xB call cs ga L xs sl mb hands rt Q J ((.lload n, z) :: is) ls s h bg := by
  simp only [xB, hg]
  exact kk
theorem x_aload {n : Nat} {x : Nat} (hg : gI ls n = some (.ref x)) (kk : xB call cs ga L xs sl mb hands rt Q J is ls (.ref x :: s) h bg) : xB call cs ga L xs sl mb hands rt Q J ((.aload n, z) :: is) ls s h bg := by
  simp only [xB, hg]
  exact kk
theorem x_istore {n : Nat} {x : Int32} (hl : low1 ls n = true) (kk : xB call cs ga L xs sl mb hands rt Q J is (sI ls n (some (.int x))) s h bg) : xB call cs ga L xs sl mb hands rt Q J ((.istore n, z) :: is) ls (.int x :: s) h bg := by
  simp only [xB]
  exact ⟨hl, kk⟩
theorem x_astore {n : Nat} {x : Nat} (hl : low1 ls n = true) (kk : xB call cs ga L xs sl mb hands rt Q J is (sI ls n (some (.ref x))) s h bg) : xB call cs ga L xs sl mb hands rt Q J ((.astore n, z) :: is) ls (.ref x :: s) h bg := by
  simp only [xB]
  exact ⟨hl, kk⟩
theorem x_lstore {n : Nat} {x : Int64} (hl : low1 ls n = true) (kk : xB call cs ga L xs sl mb hands rt Q J is (sI (sI ls n (some (.long x))) (n + 1) none) s h bg) : xB call cs ga L xs sl mb hands rt Q J ((.lstore n, z) :: is) ls (.long x :: s) h bg := by
  simp only [xB]
  exact ⟨hl, kk⟩
theorem x_iinc {n : Nat} {k : Int} {x : Int32} (hg : gI ls n = some (.int x)) (hl : low1 ls n = true) (kk : xB call cs ga L xs sl mb hands rt Q J is (sI ls n (some (.int (x + kI k)))) s h bg) : xB call cs ga L xs sl mb hands rt Q J ((.iinc n k, z) :: is) ls s h bg := by
  simp only [xB, hg]
  exact ⟨hl, kk⟩
theorem x_iadd {x y : Int32} (kk : xB call cs ga L xs sl mb hands rt Q J is ls (.int (x + y) :: s) h bg) : xB call cs ga L xs sl mb hands rt Q J ((.iadd, z) :: is) ls (.int y :: .int x :: s) h bg := by
  simp only [xB]
  exact kk
theorem x_isub {x y : Int32} (kk : xB call cs ga L xs sl mb hands rt Q J is ls (.int (x - y) :: s) h bg) : xB call cs ga L xs sl mb hands rt Q J ((.isub, z) :: is) ls (.int y :: .int x :: s) h bg := by
  simp only [xB]
  exact kk
theorem x_imul {x y : Int32} (kk : xB call cs ga L xs sl mb hands rt Q J is ls (.int (x * y) :: s) h bg) : xB call cs ga L xs sl mb hands rt Q J ((.imul, z) :: is) ls (.int y :: .int x :: s) h bg := by
  simp only [xB]
  exact kk
theorem x_iand {x y : Int32} (kk : xB call cs ga L xs sl mb hands rt Q J is ls (.int (x &&& y) :: s) h bg) : xB call cs ga L xs sl mb hands rt Q J ((.iand, z) :: is) ls (.int y :: .int x :: s) h bg := by
  simp only [xB]
  exact kk
theorem x_ior {x y : Int32} (kk : xB call cs ga L xs sl mb hands rt Q J is ls (.int (x ||| y) :: s) h bg) : xB call cs ga L xs sl mb hands rt Q J ((.ior, z) :: is) ls (.int y :: .int x :: s) h bg := by
  simp only [xB]
  exact kk
theorem x_ixor {x y : Int32} (kk : xB call cs ga L xs sl mb hands rt Q J is ls (.int (x ^^^ y) :: s) h bg) : xB call cs ga L xs sl mb hands rt Q J ((.ixor, z) :: is) ls (.int y :: .int x :: s) h bg := by
  simp only [xB]
  exact kk
theorem x_ishl {x y : Int32} (kk : xB call cs ga L xs sl mb hands rt Q J is ls (.int (x <<< (y &&& 31)) :: s) h bg) : xB call cs ga L xs sl mb hands rt Q J ((.ishl, z) :: is) ls (.int y :: .int x :: s) h bg := by
  simp only [xB]
  exact kk
theorem x_ishr {x y : Int32} (kk : xB call cs ga L xs sl mb hands rt Q J is ls (.int (x >>> (y &&& 31)) :: s) h bg) : xB call cs ga L xs sl mb hands rt Q J ((.ishr, z) :: is) ls (.int y :: .int x :: s) h bg := by
  simp only [xB]
  exact kk
theorem x_iushr {x y : Int32} (kk : xB call cs ga L xs sl mb hands rt Q J is ls (.int ((x.toUInt32 >>> (y.toUInt32 &&& Int32.toUInt32 31)).toInt32) :: s) h bg) : xB call cs ga L xs sl mb hands rt Q J ((.iushr, z) :: is) ls (.int y :: .int x :: s) h bg := by
  simp only [xB]
  exact kk
theorem x_idiv {x y : Int32} (hy : ¬ y = 0) (kk : xB call cs ga L xs sl mb hands rt Q J is ls (.int (x / y) :: s) h bg) : xB call cs ga L xs sl mb hands rt Q J ((.idiv, z) :: is) ls (.int y :: .int x :: s) h bg := by
  simp only [xB]
  exact ⟨hy, kk⟩
theorem x_irem {x y : Int32} (hy : ¬ y = 0) (kk : xB call cs ga L xs sl mb hands rt Q J is ls (.int (x - x / y * y) :: s) h bg) : xB call cs ga L xs sl mb hands rt Q J ((.irem, z) :: is) ls (.int y :: .int x :: s) h bg := by
  simp only [xB]
  exact ⟨hy, kk⟩
theorem x_ineg {x : Int32} (kk : xB call cs ga L xs sl mb hands rt Q J is ls (.int (-x) :: s) h bg) : xB call cs ga L xs sl mb hands rt Q J ((.ineg, z) :: is) ls (.int x :: s) h bg := by
  simp only [xB]
  exact kk
theorem x_ladd {x y : Int64} (kk : xB call cs ga L xs sl mb hands rt Q J is ls (.long (x + y) :: s) h bg) : xB call cs ga L xs sl mb hands rt Q J ((.ladd, z) :: is) ls (.long y :: .long x :: s) h bg := by
  simp only [xB]
  exact kk
theorem x_lsub {x y : Int64} (kk : xB call cs ga L xs sl mb hands rt Q J is ls (.long (x - y) :: s) h bg) : xB call cs ga L xs sl mb hands rt Q J ((.lsub, z) :: is) ls (.long y :: .long x :: s) h bg := by
  simp only [xB]
  exact kk
theorem x_lmul {x y : Int64} (kk : xB call cs ga L xs sl mb hands rt Q J is ls (.long (x * y) :: s) h bg) : xB call cs ga L xs sl mb hands rt Q J ((.lmul, z) :: is) ls (.long y :: .long x :: s) h bg := by
  simp only [xB]
  exact kk
theorem x_land {x y : Int64} (kk : xB call cs ga L xs sl mb hands rt Q J is ls (.long (x &&& y) :: s) h bg) : xB call cs ga L xs sl mb hands rt Q J ((.land, z) :: is) ls (.long y :: .long x :: s) h bg := by
  simp only [xB]
  exact kk
theorem x_lor {x y : Int64} (kk : xB call cs ga L xs sl mb hands rt Q J is ls (.long (x ||| y) :: s) h bg) : xB call cs ga L xs sl mb hands rt Q J ((.lor, z) :: is) ls (.long y :: .long x :: s) h bg := by
  simp only [xB]
  exact kk
theorem x_lxor {x y : Int64} (kk : xB call cs ga L xs sl mb hands rt Q J is ls (.long (x ^^^ y) :: s) h bg) : xB call cs ga L xs sl mb hands rt Q J ((.lxor, z) :: is) ls (.long y :: .long x :: s) h bg := by
  simp only [xB]
  exact kk
theorem x_ldiv {x y : Int64} (hy : ¬ y = 0) (kk : xB call cs ga L xs sl mb hands rt Q J is ls (.long (x / y) :: s) h bg) : xB call cs ga L xs sl mb hands rt Q J ((.ldiv, z) :: is) ls (.long y :: .long x :: s) h bg := by
  simp only [xB]
  exact ⟨hy, kk⟩
theorem x_lrem {x y : Int64} (hy : ¬ y = 0) (kk : xB call cs ga L xs sl mb hands rt Q J is ls (.long (x - x / y * y) :: s) h bg) : xB call cs ga L xs sl mb hands rt Q J ((.lrem, z) :: is) ls (.long y :: .long x :: s) h bg := by
  simp only [xB]
  exact ⟨hy, kk⟩
theorem x_lcmp {x y : Int64} (kk : xB call cs ga L xs sl mb hands rt Q J is ls (.int (lg_cmp x y) :: s) h bg) : xB call cs ga L xs sl mb hands rt Q J ((.lcmp, z) :: is) ls (.long y :: .long x :: s) h bg := by
  simp only [xB]
  exact kk
theorem x_lshl {x : Int64} {y : Int32} (kk : xB call cs ga L xs sl mb hands rt Q J is ls (.long (x <<< (y.toInt64 &&& 63)) :: s) h bg) : xB call cs ga L xs sl mb hands rt Q J ((.lshl, z) :: is) ls (.int y :: .long x :: s) h bg := by
  simp only [xB]
  exact kk
theorem x_lshr {x : Int64} {y : Int32} (kk : xB call cs ga L xs sl mb hands rt Q J is ls (.long (x >>> (y.toInt64 &&& 63)) :: s) h bg) : xB call cs ga L xs sl mb hands rt Q J ((.lshr, z) :: is) ls (.int y :: .long x :: s) h bg := by
  simp only [xB]
  exact kk
theorem x_i2l {x : Int32} (kk : xB call cs ga L xs sl mb hands rt Q J is ls (.long x.toInt64 :: s) h bg) : xB call cs ga L xs sl mb hands rt Q J ((.i2l, z) :: is) ls (.int x :: s) h bg := by
  simp only [xB]
  exact kk
theorem x_l2i {x : Int64} (kk : xB call cs ga L xs sl mb hands rt Q J is ls (.int x.toInt32 :: s) h bg) : xB call cs ga L xs sl mb hands rt Q J ((.l2i, z) :: is) ls (.long x :: s) h bg := by
  simp only [xB]
  exact kk
theorem x_i2b {x : Int32} (kk : xB call cs ga L xs sl mb hands rt Q J is ls (.int (x.toInt8.toInt32) :: s) h bg) : xB call cs ga L xs sl mb hands rt Q J ((.i2b, z) :: is) ls (.int x :: s) h bg := by
  simp only [xB]
  exact kk
theorem x_i2s {x : Int32} (kk : xB call cs ga L xs sl mb hands rt Q J is ls (.int (x.toInt16.toInt32) :: s) h bg) : xB call cs ga L xs sl mb hands rt Q J ((.i2s, z) :: is) ls (.int x :: s) h bg := by
  simp only [xB]
  exact kk
theorem x_i2c {x : Int32} (kk : xB call cs ga L xs sl mb hands rt Q J is ls (.int ((x.toUInt32 % 65536).toInt32) :: s) h bg) : xB call cs ga L xs sl mb hands rt Q J ((.i2c, z) :: is) ls (.int x :: s) h bg := by
  simp only [xB]
  exact kk
theorem x_dupi {x : Int32} (kk : xB call cs ga L xs sl mb hands rt Q J is ls (.int x :: .int x :: s) h bg) : xB call cs ga L xs sl mb hands rt Q J ((.dup, z) :: is) ls (.int x :: s) h bg := by
  simp only [xB]
  exact kk
theorem x_dupr {x : Nat} (kk : xB call cs ga L xs sl mb hands rt Q J is ls (.ref x :: .ref x :: s) h bg) : xB call cs ga L xs sl mb hands rt Q J ((.dup, z) :: is) ls (.ref x :: s) h bg := by
  simp only [xB]
  exact kk
theorem x_popi {x : Int32} (kk : xB call cs ga L xs sl mb hands rt Q J is ls s h bg) : xB call cs ga L xs sl mb hands rt Q J ((.pop, z) :: is) ls (.int x :: s) h bg := by
  simp only [xB]
  exact kk
theorem x_popr {x : Nat} (kk : xB call cs ga L xs sl mb hands rt Q J is ls s h bg) : xB call cs ga L xs sl mb hands rt Q J ((.pop, z) :: is) ls (.ref x :: s) h bg := by
  simp only [xB]
  exact kk
theorem x_pop2 {x : Int64} (kk : xB call cs ga L xs sl mb hands rt Q J is ls s h bg) : xB call cs ga L xs sl mb hands rt Q J ((.pop2, z) :: is) ls (.long x :: s) h bg := by
  simp only [xB]
  exact kk
theorem x_dup2 {y : Int32} {x : Nat} (kk : xB call cs ga L xs sl mb hands rt Q J is ls (.int y :: .ref x :: .int y :: .ref x :: s) h bg) : xB call cs ga L xs sl mb hands rt Q J ((.dup2, z) :: is) ls (.int y :: .ref x :: s) h bg := by
  simp only [xB]
  exact kk
theorem x_dup2l {x : Int64} (kk : xB call cs ga L xs sl mb hands rt Q J is ls (.long x :: .long x :: s) h bg) : xB call cs ga L xs sl mb hands rt Q J ((.dup2, z) :: is) ls (.long x :: s) h bg := by
  simp only [xB]
  exact kk
theorem x_ldc2 {n : Nat} (kk : xB call cs ga L xs sl mb hands rt Q J is ls (.long (Int64.ofNat n) :: s) h bg) : xB call cs ga L xs sl mb hands rt Q J ((.ldc2_w n, z) :: is) ls s h bg := by
  simp only [xB]
  exact kk
theorem x_br {c : ClassFile.Cond} {b : Int} {x : Int32} (k1 : cI c x 0 → J b.toNat ls s h bg) (k2 : ¬ cI c x 0 → xB call cs ga L xs sl mb hands rt Q J is ls s h bg) : xB call cs ga L xs sl mb hands rt Q J ((.ifCond c b, z) :: is) ls (.int x :: s) h bg := by
  simp only [xB]
  exact ⟨k1, k2⟩
theorem x_br2 {c : ClassFile.Cond} {b : Int} {x y : Int32} (k1 : cI c x y → J b.toNat ls s h bg) (k2 : ¬ cI c x y → xB call cs ga L xs sl mb hands rt Q J is ls s h bg) : xB call cs ga L xs sl mb hands rt Q J ((.if_icmp c b, z) :: is) ls (.int y :: .int x :: s) h bg := by
  simp only [xB]
  exact ⟨k1, k2⟩
theorem x_goto {b : Int} (k1 : J b.toNat ls s h bg) : xB call cs ga L xs sl mb hands rt Q J ((.goto b, z) :: is) ls s h bg := by
  simp only [xB]
  exact k1
theorem x_ts {x : Int32} {d lo hi : Int} {offs : Array Int} {b : Int} (hb : tsel x d lo hi offs = some b) (k1 : J b.toNat ls s h bg) : xB call cs ga L xs sl mb hands rt Q J ((.tableswitch d lo hi offs, z) :: is) ls (.int x :: s) h bg := by
  simp only [xB, hb]
  exact k1
theorem x_lsw {x : Int32} {d : Int} {ps : Array (Int × Int)} {b : Int} (hb : Op.lookupswitch.offset ps.toList d x.toInt = b) (k1 : J b.toNat ls s h bg) : xB call cs ga L xs sl mb hands rt Q J ((.lookupswitch d ps, z) :: is) ls (.int x :: s) h bg := by
  simp only [xB, hb]
  exact k1
theorem x_iret {v : Int32} (hn : nrw rt v) (hq : Q (.inl (some (.int v))) h) : xB call cs ga L xs sl mb hands rt Q J ((.ireturn, z) :: is) ls [.int v] h bg := by
  simp only [xB]
  exact ⟨hn, hq⟩
theorem x_lret {v : Int64} (hn : rt = some .long) (hq : Q (.inl (some (.long v))) h) : xB call cs ga L xs sl mb hands rt Q J ((.lreturn, z) :: is) ls [.long v] h bg := by
  simp only [xB]
  exact ⟨hn, hq⟩
theorem x_aret {v : Nat} (hn : isR rt) (hq : Q (.inl (some (.ref v))) h) : xB call cs ga L xs sl mb hands rt Q J ((.areturn, z) :: is) ls [.ref v] h bg := by
  simp only [xB]
  exact ⟨hn, hq⟩
theorem x_vret (hn : rt = none) (hq : Q (.inl none) h) : xB call cs ga L xs sl mb hands rt Q J ((.return_, z) :: is) ls [] h bg := by
  simp only [xB]
  exact ⟨hn, hq⟩
theorem x_thr {k : Nat} (hb : bgle (bgad bg (1, 6)) mb) (hs : s.length ≤ 4) (hk : k < 4) (hq : Q (.inr k) h) : xB call cs ga L xs sl mb hands rt Q J ((.instanceof k, z) :: is) ls s h bg := by
  simp only [xB]
  exact ⟨hb, hs, hk, hq⟩
theorem x_cv {k d a : Nat} {st as : List Value} (hp : popn (d / 16) st [] = some (.ref a :: as, s)) (hs : s.length ≤ 4) (ho : isO h (some (.ref a)) (d % 16)) (hc : call k (.ref a :: as) h (xK Q hands (xB call cs ga L xs sl mb hands rt Q J is) ls s bg)) : xB call cs ga L xs sl mb hands rt Q J ((.multianewarray k d, z) :: is) ls st h bg := by
  simp only [xB, hp]
  exact ⟨hs, ho, hc⟩
theorem x_cs {k d : Nat} {st as : List Value} (hp : popn d st [] = some (as, s)) (hs : s.length ≤ 4) (hc : call k as h (xK Q hands (xB call cs ga L xs sl mb hands rt Q J is) ls s bg)) : xB call cs ga L xs sl mb hands rt Q J ((.invokeinterface k d, z) :: is) ls st h bg := by
  simp only [xB, hp]
  exact ⟨hs, hc⟩
theorem x_cvb {k a : Nat} {st as : List Value} (hp : popn (k / 16 % 16) st [] = some (.ref a :: as, s)) (hs : s.length ≤ 4) (ho : isO h (some (.ref a)) (k % 16)) (hb : bgle (bgad bg (cs (k / 256))) mb) (hc : call (k / 256) (.ref a :: as) h (xK Q hands (xB call cs ga L xs sl mb hands rt Q J is) ls s (bgad bg (cs (k / 256))))) : xB call cs ga L xs sl mb hands rt Q J ((.putstatic k, z) :: is) ls st h bg := by
  simp only [xB, hp]
  exact ⟨hs, ho, hb, hc⟩
theorem x_csb {k : Nat} {st as : List Value} (hp : popn (k % 16) st [] = some (as, s)) (hs : s.length ≤ 4) (hb : bgle (bgad bg (cs (k / 16))) mb) (hc : call (k / 16) as h (xK Q hands (xB call cs ga L xs sl mb hands rt Q J is) ls s (bgad bg (cs (k / 16))))) : xB call cs ga L xs sl mb hands rt Q J ((.ret k, z) :: is) ls st h bg := by
  simp only [xB, hp]
  exact ⟨hs, hb, hc⟩
theorem w_geti (W : WW ad w h) {i k : Nat} (c j : Nat) (hi : i < 97) (hs : shp i = (0, c, 0)) (hk : k = 32 * c + j) (hj : (Nat.blt j (nfl.getD c 0) && Nat.blt j 32 && !isRf c j) = true) (kk : xB call cs ga L xs sl mb hands rt Q J is ls (.int (wn w i j) :: s) h bg) : xB call cs ga L xs sl mb hands rt Q J ((.getfield k, z) :: is) ls (.ref (ad i) :: s) h bg := by
  simp only [Bool.and_eq_true, Nat.blt_eq, Bool.not_eq_true'] at hj
  have hv : gF k h (ad i) = some (.int (wn w i j)) := by
    refine gF_c (W.obj hi hs) (by omega) ?_
    have e : k % 32 = j := by omega
    rw [e, List.getElem?_map, List.getElem?_range hj.1.1]
    show some (if isRf c j = true then _ else _) = _
    rw [if_neg (by rw [hj.2]; decide)]
  simp only [xB, hv]
  exact kk
theorem w_getr (W : WW ad w h) {i k : Nat} (c j : Nat) {t : Nat} (hi : i < 97) (hs : shp i = (0, c, 0)) (hk : k = 32 * c + j) (hj : (Nat.blt j (nfl.getD c 0) && Nat.blt j 32 && isRf c j) = true) (ht : rfx w i j = t) (kk : xB call cs ga L xs sl mb hands rt Q J is ls (.ref (ad t) :: s) h bg) : xB call cs ga L xs sl mb hands rt Q J ((.getfield k, z) :: is) ls (.ref (ad i) :: s) h bg := by
  simp only [Bool.and_eq_true, Nat.blt_eq] at hj
  have hv : gF k h (ad i) = some (.ref (ad t)) := by
    refine gF_c (W.obj hi hs) (by omega) ?_
    have e : k % 32 = j := by omega
    rw [e, List.getElem?_map, List.getElem?_range hj.1.1]
    show some (if isRf c j = true then _ else _) = _
    rw [if_pos hj.2, ht]
  simp only [xB, hv]
  exact kk
theorem w_puti (W : WW ad w h) {i k : Nat} (c j : Nat) {x : Int32} (hi : i < 97) (hs : shp i = (0, c, 0)) (hk : k = 32 * c + j) (hj : (Nat.blt j (nfl.getD c 0) && Nat.blt j 32 && !isRf c j) = true) (ho : okF k (.int x)) (kk : ∀ h', WW ad (sn w i j x) h' → xB call cs ga L xs sl mb hands rt Q J is ls s h' bg) : xB call cs ga L xs sl mb hands rt Q J ((.putfield k, z) :: is) ls (.int x :: .ref (ad i) :: s) h bg := by
  simp only [Bool.and_eq_true, Nat.blt_eq, Bool.not_eq_true'] at hj
  have e : k % 32 = j := by omega
  have hv : pF k h (ad i) (.int x) = _ := pF_c (W.obj hi hs) (by omega) (by rw [e, List.length_map, List.length_range]; exact hj.1.1)
  simp only [xB, hv]
  refine ⟨ho, kk _ (W.up ?_ fun a ha => cellOf_eq (fun b => ?_) (fun b => rfl) rfl rfl)⟩
  · rw [cellOf_obj hs, e, map_set]
    refine congrArg Sum.inr (congrArg (Prod.mk c) (congrArg (fun f => List.map f (List.range (nfl.getD c 0))) (funext fun b => ?_)))
    by_cases eb : b = j
    · subst eb
      rw [if_pos rfl, if_neg (by rw [hj.2]; decide), wn_sn, if_pos ⟨rfl, rfl⟩]
    · rw [if_neg eb]
      by_cases er : isRf c b = true
      · rw [if_pos er, if_pos er]
        rfl
      · rw [if_neg er, if_neg er, wn_sn, if_neg (fun q => eb q.2)]
  · rw [wn_sn, if_neg (fun q => ha q.1)]
theorem w_putr (W : WW ad w h) {i k : Nat} (c j t : Nat) (hi : i < 97) (hs : shp i = (0, c, 0)) (hk : k = 32 * c + j) (hj : (Nat.blt j (nfl.getD c 0) && Nat.blt j 32 && isRf c j) = true) (ho : okF k (.ref (ad t))) (hr : ∀ b, rfx (sr w i j t) i b = if b = j then t else rfx w i b) (kk : ∀ h', WW ad (sr w i j t) h' → xB call cs ga L xs sl mb hands rt Q J is ls s h' bg) : xB call cs ga L xs sl mb hands rt Q J ((.putfield k, z) :: is) ls (.ref (ad t) :: .ref (ad i) :: s) h bg := by
  simp only [Bool.and_eq_true, Nat.blt_eq] at hj
  have e : k % 32 = j := by omega
  have hv : pF k h (ad i) (.ref (ad t)) = _ := pF_c (W.obj hi hs) (by omega) (by rw [e, List.length_map, List.length_range]; exact hj.1.1)
  simp only [xB, hv]
  refine ⟨ho, kk _ (W.up ?_ fun a ha => cellOf_eq (fun b => rfl) (fun b => ?_) rfl rfl)⟩
  · rw [cellOf_obj hs, e, map_set]
    refine congrArg Sum.inr (congrArg (Prod.mk c) (congrArg (fun f => List.map f (List.range (nfl.getD c 0))) (funext fun b => ?_)))
    rw [hr]
    by_cases eb : b = j
    · subst eb
      rw [if_pos rfl, if_pos hj.2, if_pos rfl]
    · rw [if_neg eb, if_neg eb]
      rfl
  · rw [wr_sr, if_neg (fun q => ha q.1)]
theorem w_iald (W : WW ad w h) {i n : Nat} (j : Nat) {x : Int32} (hi : i < 97) (hs : shp i = (1, 0, n)) (hx : x = kI j) (hj : j < n) (hn : n ≤ 1000) (kk : xB call cs ga L xs sl mb hands rt Q J is ls (.int (wa w i j) :: s) h bg) : xB call cs ga L xs sl mb hands rt Q J ((.iaload, z) :: is) ls (.int x :: .ref (ad i) :: s) h bg := by
  subst hx
  obtain ⟨h1, h2⟩ := vp_inN hj hn
  simp only [xB, W.iarr hi hs, h2]
  exact ⟨h1, kk⟩
theorem w_lald (W : WW ad w h) {i n : Nat} (j : Nat) {x : Int32} (hi : i < 97) (hs : shp i = (1, 1, n)) (hx : x = kI j) (hj : j < n) (hn : n ≤ 1000) (kk : xB call cs ga L xs sl mb hands rt Q J is ls (.long (wl w i j) :: s) h bg) : xB call cs ga L xs sl mb hands rt Q J ((.laload, z) :: is) ls (.int x :: .ref (ad i) :: s) h bg := by
  subst hx
  obtain ⟨h1, h2⟩ := vp_inN hj hn
  simp only [xB, W.larr hi hs, h2]
  exact ⟨h1, kk⟩
theorem w_bald (W : WW ad w h) {i t n : Nat} (j : Nat) {x : Int32} (hi : i < 97) (hs : shp i = (1, t, n)) (ht : t = 2 ∨ t = 3) (hx : x = kI j) (hj : j < n) (hn : n ≤ 1000) (kk : xB call cs ga L xs sl mb hands rt Q J is ls (.int (wa w i j) :: s) h bg) : xB call cs ga L xs sl mb hands rt Q J ((.baload, z) :: is) ls (.int x :: .ref (ad i) :: s) h bg := by
  subst hx
  obtain ⟨h1, h2⟩ := vp_inN hj hn
  simp only [xB, W.barr hi hs ht]
  rcases ht with rfl | rfl
  · simp only [h2]
    exact ⟨h1, kk⟩
  · simp only [h2]
    exact ⟨h1, kk⟩
theorem w_aald (W : WW ad w h) {i t n : Nat} (j : Nat) {x : Int32} (hi : i < 97) (hs : shp i = (1, t, n)) (ht : 4 ≤ t ∧ t < 7) (hx : x = kI j) (hj : j < n) (hn : n ≤ 1000) (kk : xB call cs ga L xs sl mb hands rt Q J is ls (.ref (ad (rax i j)) :: s) h bg) : xB call cs ga L xs sl mb hands rt Q J ((.aaload, z) :: is) ls (.int x :: .ref (ad i) :: s) h bg := by
  subst hx
  obtain ⟨h1, h2⟩ := vp_inN hj hn
  have hc : h (ad i) = some (.inl (t, n, .inr (.inr (.inr (.inr (fun j => if j < n then some (ad (rax i j)) else none)))))) := by
    rw [W.2 i hi, cellOf_arr hs, if_neg (by omega), if_neg (by omega)]
  simp only [xB, hc, h2, if_pos hj]
  exact ⟨ht, h1, kk⟩
theorem w_len (W : WW ad w h) {i t n : Nat} (hi : i < 97) (hs : shp i = (1, t, n)) (ht : t < 7) (kk : xB call cs ga L xs sl mb hands rt Q J is ls (.int (Int32.ofNat n) :: s) h bg) : xB call cs ga L xs sl mb hands rt Q J ((.arraylength, z) :: is) ls (.ref (ad i) :: s) h bg := by
  simp only [xB, W.2 i hi, cellOf_arr hs]
  exact ⟨ht, kk⟩
theorem w_iast (W : WW ad w h) {i n : Nat} (j : Nat) {x v : Int32} (hi : i < 97) (hs : shp i = (1, 0, n)) (hx : x = kI j) (hj : j < n) (hn : n ≤ 1000) (kk : ∀ h', WW ad (sa w i (upd (wa w i) j v)) h' → xB call cs ga L xs sl mb hands rt Q J is ls s h' bg) : xB call cs ga L xs sl mb hands rt Q J ((.iastore, z) :: is) ls (.int v :: .int x :: .ref (ad i) :: s) h bg := by
  subst hx
  obtain ⟨h1, h2⟩ := vp_inN hj hn
  simp only [xB, W.iarr hi hs, h2]
  refine ⟨h1, kk _ (W.up ?_ fun a ha => cellOf_eq (fun b => rfl) (fun b => rfl) ?_ rfl)⟩
  · rw [cellOf_arr hs, wa_sa, if_pos rfl]
    rfl
  · rw [wa_sa, if_neg ha]
theorem w_bast (W : WW ad w h) {i t n : Nat} (j : Nat) {x v : Int32} (hi : i < 97) (hs : shp i = (1, t, n)) (ht : t = 2 ∨ t = 3) (hx : x = kI j) (hj : j < n) (hn : n ≤ 1000) (kk : ∀ h', WW ad (sa w i (upd (wa w i) j (vp_nar (if t = 2 then .boolean else .byte) v))) h' → xB call cs ga L xs sl mb hands rt Q J is ls s h' bg) : xB call cs ga L xs sl mb hands rt Q J ((.bastore, z) :: is) ls (.int v :: .int x :: .ref (ad i) :: s) h bg := by
  subst hx
  obtain ⟨h1, h2⟩ := vp_inN hj hn
  simp only [xB, W.barr hi hs ht]
  rcases ht with rfl | rfl
  · simp only [h2]
    refine ⟨h1, kk _ (W.up ?_ fun a ha => cellOf_eq (fun b => rfl) (fun b => rfl) ?_ rfl)⟩
    · rw [cellOf_arr hs]
      simp [wa_sa]
    · rw [wa_sa, if_neg ha]
  · simp only [h2]
    refine ⟨h1, kk _ (W.up ?_ fun a ha => cellOf_eq (fun b => rfl) (fun b => rfl) ?_ rfl)⟩
    · rw [cellOf_arr hs]
      simp [wa_sa]
    · rw [wa_sa, if_neg ha]
theorem w_last (W : WW ad w h) {i n : Nat} (j : Nat) {x : Int32} {v : Int64} (hi : i < 97) (hs : shp i = (1, 1, n)) (hx : x = kI j) (hj : j < n) (hn : n ≤ 1000) (kk : ∀ h', WW ad (sv w i (vp_updL (wl w i) j v)) h' → xB call cs ga L xs sl mb hands rt Q J is ls s h' bg) : xB call cs ga L xs sl mb hands rt Q J ((.lastore, z) :: is) ls (.long v :: .int x :: .ref (ad i) :: s) h bg := by
  subst hx
  obtain ⟨h1, h2⟩ := vp_inN hj hn
  simp only [xB, W.larr hi hs, h2]
  refine ⟨h1, kk _ (W.up ?_ fun a ha => cellOf_eq (fun b => rfl) (fun b => rfl) rfl ?_)⟩
  · rw [cellOf_arr hs]
    simp [wl_sv]
  · rw [wl_sv, if_neg ha]
theorem w_cpy (W : WW ad w h) {i k n : Nat} {sp dp l : Int32} (hi : i < 97) (hk : k < 97) (hs : shp i = (1, 0, n)) (hs2 : shp k = (1, 0, n)) (h1 : sp = kI 0) (h2 : dp = kI 0) (h3 : l = kI n) (hn : n ≤ 1000) (hst : s.length ≤ 4) (kk : ∀ h', WW ad (sa w k (va_cpy (wa w i) (wa w k) 0 0 n)) h' → xB call cs ga L xs sl mb hands rt Q J is ls s h' bg) : xB call cs ga L xs sl mb hands rt Q J ((.monitorenter, z) :: is) ls (.int l :: .int dp :: .ref (ad k) :: .int sp :: .ref (ad i) :: s) h bg := by
  subst h1 h2 h3
  have e0 : (kI 0).toNatClampNeg = 0 := rfl
  have e1 : (kI (n : Int)).toInt = n := by
    unfold kI
    rw [Int32.toInt_ofInt_of_le] <;> omega
  have e2 : (kI (n : Int)).toNatClampNeg = n := by
    show (kI (n : Int)).toInt.toNat = n
    rw [e1]
    rfl
  simp only [xB, W.iarr hi hs, W.iarr hk hs2, e0, e2]
  refine ⟨hst, by decide, by decide, ?_, by omega, by omega, kk _ (W.up ?_ fun a ha => cellOf_eq (fun b => rfl) (fun b => rfl) ?_ rfl)⟩
  · rw [Int32.lt_iff_toInt_lt, e1]
    have : (0 : Int32).toInt = 0 := rfl
    omega
  · rw [cellOf_arr hs2, wa_sa, if_pos rfl]
    rfl
  · rw [wa_sa, if_neg ha]
end STP
theorem xk_go {call : Nat → List Value → ac_H → ac_P → Prop} {cs : Nat → Nat × Nat} {ga : Nat → Nat} {L : Nat} {xs : Nat → Int32} {sl : Nat → List Int32} {mb : Nat × Nat} {hands : List (Nat × Int)} {rt : Option FieldType} {Q : ac_P} {J : Nat → ac_X} {is : ac_I} {ls : ac_L} {s : List Value} {h : ac_H} {bg : Nat × Nat} {v : Value} (kk : xB call cs ga L xs sl mb hands rt Q J is ls (v :: s) h bg) : xK Q hands (xB call cs ga L xs sl mb hands rt Q J is) ls s bg (.inl (some v)) h := kk
theorem xk_v {call : Nat → List Value → ac_H → ac_P → Prop} {cs : Nat → Nat × Nat} {ga : Nat → Nat} {L : Nat} {xs : Nat → Int32} {sl : Nat → List Int32} {mb : Nat × Nat} {hands : List (Nat × Int)} {rt : Option FieldType} {Q : ac_P} {J : Nat → ac_X} {is : ac_I} {ls : ac_L} {s : List Value} {h : ac_H} {bg : Nat × Nat} (kk : xB call cs ga L xs sl mb hands rt Q J is ls s h bg) : xK Q hands (xB call cs ga L xs sl mb hands rt Q J is) ls s bg (.inl none) h := kk
theorem WP.enter {ga : Nat → Nat} {L : Nat} {xs : Nat → Int32} {d k : Nat} {as : List Value} {h : ac_H} {P : ac_P} {md : ac_M} (hk : methods[k]? = some md) (hl : (entA as).length ≤ mL md) (body : ∀ J : Nat → ac_X, xBody ga L xs (WP ga L xs d) md P J → J 0 (entL as (mL md)) [] h (0, 0)) : WP ga L xs (d + 1) k as h P := ⟨md, hk, hl, body⟩
end
section
/-! ===== numbers and sets ===== -/
theorem kI_add (a b : Int) : kI a + kI b = kI (a + b) := (Int32.ofInt_add a b).symm
theorem kI_sub (a b : Int) : kI a - kI b = kI (a - b) := (Int32.ofInt_sub a b).symm
theorem kI_mul (a b : Int) : kI a * kI b = kI (a * b) := (Int32.ofInt_mul a b).symm
theorem kI_toInt {a : Int} (h1 : -2147483648 ≤ a) (h2 : a < 2147483648) : (kI a).toInt = a := Int32.toInt_ofInt_of_le h1 h2
theorem kI_of (x : Int32) : kI x.toInt = x := Int32.ofInt_toInt x
theorem kI_lt {a b : Int} (h1 : -2147483648 ≤ a) (h2 : a < 2147483648) (h3 : -2147483648 ≤ b) (h4 : b < 2147483648) : kI a < kI b ↔ a < b := by
  rw [Int32.lt_iff_toInt_lt, kI_toInt h1 h2, kI_toInt h3 h4]
theorem kI_le {a b : Int} (h1 : -2147483648 ≤ a) (h2 : a < 2147483648) (h3 : -2147483648 ≤ b) (h4 : b < 2147483648) : kI a ≤ kI b ↔ a ≤ b := by
  rw [Int32.le_iff_toInt_le, kI_toInt h1 h2, kI_toInt h3 h4]
theorem kI_inj {a b : Int} (h1 : -2147483648 ≤ a) (h2 : a < 2147483648) (h3 : -2147483648 ≤ b) (h4 : b < 2147483648) : kI a = kI b ↔ a = b := by
  rw [← Int32.toInt_inj, kI_toInt h1 h2, kI_toInt h3 h4]
/-- of small counts -/
theorem kN_lt {a b : Nat} (h2 : a < 2147483648) (h4 : b < 2147483648) : kI (a : Int) < kI (b : Int) ↔ a < b := by
  rw [kI_lt] <;> omega
theorem kN_le {a b : Nat} (h2 : a < 2147483648) (h4 : b < 2147483648) : kI (a : Int) ≤ kI (b : Int) ↔ a ≤ b := by
  rw [kI_le] <;> omega
theorem kN_inj {a b : Nat} (h2 : a < 2147483648) (h4 : b < 2147483648) : kI (a : Int) = kI (b : Int) ↔ a = b := by
  rw [kI_inj] <;> omega
theorem kN_succ (a : Nat) : kI (a : Int) + kI 1 = kI ((a + 1 : Nat) : Int) := by rw [kI_add]; rfl
theorem kN_toInt {a : Nat} (h : a < 2147483648) : (kI (a : Int)).toInt = a := kI_toInt (by omega) (by omega)
theorem kI_zero : kI 0 = 0 := rfl
theorem kI_one : kI 1 = 1 := rfl
def bI (b : Bool) : Int32 := if b = true then 1 else 0
theorem bI_eq0 {b : Bool} : bI b = 0 ↔ b = false := by cases b <;> decide
theorem bI_ne0 {b : Bool} : ¬ bI b = 0 ↔ b = true := by cases b <;> decide
theorem nrwB (b : Bool) : nrw (some .boolean) (bI b) := by cases b <;> rfl
theorem nrwI (x : Int32) : nrw (some .int) x := rfl
/-- bits -/
def hb (x : Int32) (j : Nat) : Bool := x.toBitVec.getLsbD j
def b1 (m : Nat) : Int32 := kI ((2 ^ m : Nat) : Int)
theorem hb_and (x y : Int32) (j : Nat) : hb (x &&& y) j = (hb x j && hb y j) := by
  unfold hb
  rw [Int32.toBitVec_and, BitVec.getLsbD_and]
theorem hb_or (x y : Int32) (j : Nat) : hb (x ||| y) j = (hb x j || hb y j) := by
  unfold hb
  rw [Int32.toBitVec_or, BitVec.getLsbD_or]
theorem hb_xor (x y : Int32) (j : Nat) : hb (x ^^^ y) j = (hb x j ^^ hb y j) := by
  unfold hb
  rw [Int32.toBitVec_xor, BitVec.getLsbD_xor]
theorem hb_neg1 : ∀ j, j < 32 → hb (kI (-1)) j = true := by decide +kernel
theorem hb_ge {x : Int32} {j : Nat} (h : 32 ≤ j) : hb x j = false := BitVec.getLsbD_of_ge _ _ h
theorem hb_zero (j : Nat) : hb (kI 0) j = false := by
  show (0#32).getLsbD j = false
  simp
theorem hb_b1 : ∀ m, m < 31 → ∀ j, j < 32 → hb (b1 m) j = decide (j = m) := by decide +kernel
theorem hb_b1' {m j : Nat} (hm : m < 31) : hb (b1 m) j = decide (j = m) := by
  by_cases h : j < 32
  · exact hb_b1 m hm j h
  · rw [hb_ge (by omega)]
    simp
    omega
theorem hb_ext {x y : Int32} (h : ∀ j, j < 32 → hb x j = hb y j) : x = y := by
  apply Int32.toBitVec_inj.mp
  apply BitVec.eq_of_getLsbD_eq
  intro j hj
  exact h j hj
theorem and31 : ∀ m : Nat, m < 32 → (kI (m : Int) &&& 31 : Int32) = kI (m : Int) := by decide +kernel
theorem smod32 : ∀ m : Nat, m < 32 → (((kI (m : Int)).toBitVec).smod 32).toNat = m := by decide +kernel
theorem shl1 : ∀ m : Nat, m < 31 → (kI 1 <<< (kI (m : Int) &&& 31)) = b1 m := by decide +kernel
theorem hb_shr {x : Int32} {m : Nat} (hm : m < 32) (j : Nat) : hb (x >>> (kI (m : Int) &&& 31)) j = (decide (j < 32) && if m + j < 32 then hb x (m + j) else hb x 31) := by
  rw [and31 m hm]
  unfold hb
  rw [Int32.toBitVec_shiftRight, BitVec.sshiftRight_eq', smod32 m hm, BitVec.getLsbD_sshiftRight, BitVec.msb_eq_getLsbD_last]
  by_cases h : j < 32
  · simp [h]
  · simp [h]
theorem hb_one : ∀ j, j < 32 → hb (kI 1) j = decide (j = 0) := by decide +kernel
theorem hb_bI (b : Bool) : ∀ j, j < 32 → hb (bI b) j = (b && decide (j = 0)) := by cases b <;> decide +kernel
theorem shr_and1 {x : Int32} {m : Nat} (hm : m < 32) : (x >>> (kI (m : Int) &&& 31)) &&& kI 1 = bI (hb x m) := by
  apply hb_ext
  intro j hj
  rw [hb_and, hb_shr hm, hb_one j hj, hb_bI _ j hj]
  by_cases e : j = 0
  · subst e
    simp [hm]
  · simp [e]
/-- how many below n have p -/
def cnt (p : Nat → Bool) : Nat → Nat
  | 0 => 0
  | n + 1 => cnt p n + (if p n = true then 1 else 0)
def pc (x : Int32) : Nat := cnt (hb x) 12
theorem cnt_le (p : Nat → Bool) : ∀ n, cnt p n ≤ n
  | 0 => Nat.le_refl _
  | n + 1 => by
    have := cnt_le p n
    unfold cnt
    split <;> omega
theorem pc_le (x : Int32) : pc x ≤ 12 := cnt_le _ _
/-- a set of the first n -/
def sok (n : Nat) (s : Int32) : Prop := n ≤ 12 ∧ ∀ j, n ≤ j → hb s j = false
theorem sok.mono {n k : Nat} {s : Int32} (h : sok n s) (hk : n ≤ k) (h12 : k ≤ 12) : sok k s := ⟨h12, fun j hj => h.2 j (by omega)⟩
theorem sok_val {n : Nat} {s : Int32} (h : sok n s) : ∃ a : Nat, a < 2 ^ n ∧ s = kI (a : Int) := by
  have h1 : s.toBitVec.toNat < 2 ^ n := by
    apply Nat.lt_pow_two_of_testBit
    intro j hj
    exact h.2 j hj
  refine ⟨s.toBitVec.toNat, h1, ?_⟩
  apply Int32.toBitVec_inj.mp
  unfold kI
  rw [Int32.toBitVec_ofInt, BitVec.ofInt_natCast, BitVec.ofNat_toNat, BitVec.setWidth_eq]
theorem sok_of {n a : Nat} (hn : n ≤ 12) (ha : a < 2 ^ n) : sok n (kI (a : Int)) := by
  refine ⟨hn, fun j hj => ?_⟩
  unfold hb kI
  rw [Int32.toBitVec_ofInt, BitVec.ofInt_natCast, BitVec.getLsbD_ofNat]
  have : a.testBit j = false := Nat.testBit_lt_two_pow (Nat.lt_of_lt_of_le ha (Nat.pow_le_pow_right (by decide) hj))
  rw [this]
  simp
theorem sok12 {n : Nat} {s : Int32} (h : sok n s) : ∃ a : Nat, a < 4096 ∧ s = kI (a : Int) := by
  obtain ⟨a, h1, h2⟩ := sok_val h
  exact ⟨a, Nat.lt_of_lt_of_le h1 (Nat.pow_le_pow_right (by decide) h.1), h2⟩
end
section
/-! ===== Integer.bitCount of a set ===== -/
def bcf (i : Int32) : Int32 :=
  let i1 := i - ((i.toUInt32 >>> ((kI 1).toUInt32 &&& Int32.toUInt32 31)).toInt32 &&& kI 1431655765)
  let i2 := (i1 &&& kI 858993459) + ((i1.toUInt32 >>> ((kI 2).toUInt32 &&& Int32.toUInt32 31)).toInt32 &&& kI 858993459)
  let i3 := (i2 + (i2.toUInt32 >>> ((kI 4).toUInt32 &&& Int32.toUInt32 31)).toInt32) &&& kI 252645135
  let i4 := i3 + (i3.toUInt32 >>> ((kI 8).toUInt32 &&& Int32.toUInt32 31)).toInt32
  let i5 := i4 + (i4.toUInt32 >>> ((kI 16).toUInt32 &&& Int32.toUInt32 31)).toInt32
  i5 &&& kI 63
set_option maxRecDepth 100000 in
theorem bcf_all : ∀ a : Nat, a < 4096 → bcf (kI (a : Int)) = kI (pc (kI (a : Int)) : Int) := by decide +kernel
theorem bcf_sok {n : Nat} {s : Int32} (h : sok n s) : bcf s = kI (pc s : Int) := by
  obtain ⟨a, h1, rfl⟩ := sok12 h
  exact bcf_all a h1
end
section
/-! ===== more steps ===== -/
section STQ
variable {call : Nat → List Value → ac_H → ac_P → Prop} {cs : Nat → Nat × Nat} {ga : Nat → Nat} {L : Nat} {xs : Nat → Int32} {sl : Nat → List Int32} {mb : Nat × Nat} {hands : List (Nat × Int)} {rt : Option FieldType} {Q : ac_P} {J : Nat → ac_X}
variable {is : ac_I} {ls : ac_L} {s : List Value} {h : ac_H} {bg : Nat × Nat} {z : Nat}
theorem x_shl1 {m : Nat} (hm : m < 31) (kk : xB call cs ga L xs sl mb hands rt Q J is ls (.int (b1 m) :: s) h bg) : xB call cs ga L xs sl mb hands rt Q J ((.ishl, z) :: is) ls (.int (kI (m : Int)) :: .int (kI 1) :: s) h bg := by
  refine x_ishl ?_
  rw [shl1 m hm]
  exact kk
/-- the value at the top, told otherwise -/
theorem x_eqi {x y : Int32} (e : x = y) (kk : xB call cs ga L xs sl mb hands rt Q J is ls (.int y :: s) h bg) : xB call cs ga L xs sl mb hands rt Q J is ls (.int x :: s) h bg := e ▸ kk
theorem x_eql {x y : Int64} (e : x = y) (kk : xB call cs ga L xs sl mb hands rt Q J is ls (.long y :: s) h bg) : xB call cs ga L xs sl mb hands rt Q J is ls (.long x :: s) h bg := e ▸ kk
end STQ
theorem nl_le {x y : Int32} (h : x < y) : ¬ y ≤ x := Int32.not_le.mpr h
theorem nn_lt {x y : Int32} (h : ¬ x < y) : y ≤ x := Int32.not_lt.mp h
theorem cy_eq {x y : Int32} (b : cI .eq x y) : x = y := b
theorem cn_eq {x y : Int32} (b : ¬ cI .eq x y) : ¬ x = y := b
theorem cy_ne {x y : Int32} (b : cI .ne x y) : ¬ x = y := b
theorem cn_ne {x y : Int32} (b : ¬ cI .ne x y) : x = y := Decidable.not_not.mp b
theorem cy_lt {x y : Int32} (b : cI .lt x y) : x < y := b
theorem cn_lt {x y : Int32} (b : ¬ cI .lt x y) : y ≤ x := Int32.not_lt.mp b
theorem cy_ge {x y : Int32} (b : cI .ge x y) : y ≤ x := b
theorem cn_ge {x y : Int32} (b : ¬ cI .ge x y) : x < y := Int32.not_le.mp b
theorem cy_gt {x y : Int32} (b : cI .gt x y) : y < x := b
theorem cn_gt {x y : Int32} (b : ¬ cI .gt x y) : x ≤ y := Int32.not_lt.mp b
theorem cy_le {x y : Int32} (b : cI .le x y) : x ≤ y := b
theorem cn_le {x y : Int32} (b : ¬ cI .le x y) : y < x := Int32.not_le.mp b
theorem okB1 {k : Nat} (hf : fty k = .boolean) : okF k (.int (kI 1)) := okB (b := true) hf
theorem okB0 {k : Nat} (hf : fty k = .boolean) : okF k (.int (kI 0)) := okB (b := false) hf
end
section
/-! ===== a club's cells; what they stand for ===== -/
def isC (i : Nat) : Prop := i = 10 ∨ i = 15 ∨ i = 20 ∨ i = 25 ∨ i = 30 ∨ i = 35
theorem isC.lt {i : Nat} (h : isC i) : i < 97 := by unfold isC at h; omega
theorem isC.sh {i : Nat} (h : isC i) : shp (i) = (0, 0, 0) := by rcases h with rfl | rfl | rfl | rfl | rfl | rfl <;> rfl
theorem isC.lt1 {i : Nat} (h : isC i) : i + 1 < 97 := by unfold isC at h; omega
theorem isC.sh1 {i : Nat} (h : isC i) : shp (i + 1) = (1, 0, 12) := by rcases h with rfl | rfl | rfl | rfl | rfl | rfl <;> rfl
theorem isC.rf1 {i : Nat} (h : isC i) (w : Wst) : rfx w i 10 = i + 1 := by rcases h with rfl | rfl | rfl | rfl | rfl | rfl <;> rfl
theorem isC.lt2 {i : Nat} (h : isC i) : i + 2 < 97 := by unfold isC at h; omega
theorem isC.sh2 {i : Nat} (h : isC i) : shp (i + 2) = (1, 0, 12) := by rcases h with rfl | rfl | rfl | rfl | rfl | rfl <;> rfl
theorem isC.rf2 {i : Nat} (h : isC i) (w : Wst) : rfx w i 11 = i + 2 := by rcases h with rfl | rfl | rfl | rfl | rfl | rfl <;> rfl
theorem isC.lt3 {i : Nat} (h : isC i) : i + 3 < 97 := by unfold isC at h; omega
theorem isC.sh3 {i : Nat} (h : isC i) : shp (i + 3) = (1, 0, 12) := by rcases h with rfl | rfl | rfl | rfl | rfl | rfl <;> rfl
theorem isC.rf3 {i : Nat} (h : isC i) (w : Wst) : rfx w i 12 = i + 3 := by rcases h with rfl | rfl | rfl | rfl | rfl | rfl <;> rfl
theorem isC.lt4 {i : Nat} (h : isC i) : i + 4 < 97 := by unfold isC at h; omega
theorem isC.sh4 {i : Nat} (h : isC i) : shp (i + 4) = (1, 0, 60) := by rcases h with rfl | rfl | rfl | rfl | rfl | rfl <;> rfl
theorem isC.rf4 {i : Nat} (h : isC i) (w : Wst) : rfx w i 13 = i + 4 := by rcases h with rfl | rfl | rfl | rfl | rfl | rfl <;> rfl
/-- a club's values in one row: 0 lines, 1 quota, 2 dinner, 3 fog, 4 members, 5 weeks; of a member four from 6 on; the weeks from 54 on -/
abbrev VT : Type := Nat → Int32
def nm (V : VT) : Nat := (V 4).toInt.toNat
def wk (V : VT) : Nat := (V 5).toInt.toNat
def vR (V : VT) (m : Nat) : Int32 := V (6 + 4 * m)
def vN (V : VT) (m : Nat) : Int32 := V (7 + 4 * m)
def vC (V : VT) (m : Nat) : Int32 := V (8 + 4 * m)
def vU (V : VT) (m : Nat) : Int32 := V (9 + 4 * m)
def vS (V : VT) (j : Nat) : Int32 := V (54 + j)
def btw (x : Int32) (a b : Int) : Prop := a ≤ x.toInt ∧ x.toInt ≤ b
def VOK (V : VT) : Prop := (btw (V 0) 0 700 ∧ btw (V 1) 1 12 ∧ btw (V 2) 0 999 ∧ btw (V 3) 0 100 ∧ btw (V 4) 0 12 ∧ btw (V 5) 0 60) ∧ (∀ m, m < nm V → btw (vR V m) 0 10 ∧ btw (vN V m) 0 12 ∧ btw (vC V m) 0 999 ∧ (vU V m = 0 ∨ vU V m = 1) ∧ (vR V m = 6 → 1 ≤ (vN V m).toInt) ∧ (vR V m = 9 → (vN V m).toInt ≤ 6)) ∧ ∀ j, j < wk V → sok (nm V) (vS V j)
def CR (w : Wst) (i : Nat) (V : VT) : Prop := (wn w i 0 = V 0 ∧ wn w i 1 = V 1 ∧ wn w i 2 = V 2 ∧ wn w i 3 = V 3 ∧ wn w i 4 = V 4 ∧ wn w i 6 = V 5) ∧ (∀ m, m < nm V → wa w (i + 1) m = vR V m ∧ wa w (i + 2) m = vN V m ∧ wa w (i + 3) m = vC V m) ∧ (∀ j, j < wk V → wa w (i + 4) j = vS V j) ∧
  (∀ m, hb (wn w i 5) m = (decide (m < nm V) && decide (vU V m = 1))) ∧ (∀ m, hb (wn w i 7) m = (decide (m < nm V) && decide (vC V m < V 2))) ∧ (∀ m, hb (wn w i 8) m = (decide (m < nm V) && decide (0 < vC V m))) ∧ (∀ m, hb (wn w i 9) m = (decide (m < nm V) && decide (V 2 < vC V m)))
theorem VOK.n {V : VT} (h : VOK V) : V 4 = kI (nm V : Int) ∧ nm V ≤ 12 := by
  obtain ⟨⟨-, -, -, -, ⟨h1, h2⟩, -⟩, -⟩ := h
  have h3 : ((V 4).toInt.toNat : Int) = (V 4).toInt := Int.toNat_of_nonneg h1
  refine ⟨?_, ?_⟩
  · unfold nm
    rw [h3, kI_of]
  · unfold nm
    omega
theorem VOK.w {V : VT} (h : VOK V) : V 5 = kI (wk V : Int) ∧ wk V ≤ 60 := by
  obtain ⟨⟨-, -, -, -, -, h1, h2⟩, -⟩ := h
  have h3 : ((V 5).toInt.toNat : Int) = (V 5).toInt := Int.toNat_of_nonneg h1
  refine ⟨?_, ?_⟩
  · unfold wk
    rw [h3, kI_of]
  · unfold wk
    omega
theorem CR.n {w : Wst} {i : Nat} {V : VT} (h : CR w i V) (hV : VOK V) : wn w i 4 = kI (nm V : Int) := h.1.2.2.2.2.1.trans hV.n.1
theorem CR.w {w : Wst} {i : Nat} {V : VT} (h : CR w i V) (hV : VOK V) : wn w i 6 = kI (wk V : Int) := h.1.2.2.2.2.2.trans hV.w.1
/-- sums -/
def sm (f : Nat → Int32) : Nat → Int32
  | 0 => kI 0
  | n + 1 => sm f n + f n
theorem sm_congr {f g : Nat → Int32} : ∀ {n : Nat}, (∀ j, j < n → f j = g j) → sm f n = sm g n
  | 0, _ => rfl
  | n + 1, h => by
    unfold sm
    rw [sm_congr (n := n) (fun j hj => h j (by omega)), h n (by omega)]
theorem bI_nn {b : Bool} (h : ¬ ¬ bI b = 0) : b = false := bI_eq0.mp (Decidable.not_not.mp h)
theorem ge_n {m n : Nat} {y : Int32} (e : y = kI (n : Int)) (hm : m ≤ 100000 ∧ n ≤ 100000) (b : ¬ y ≤ kI (m : Int)) : m < n := by
  rw [e, kN_le (by omega) (by omega)] at b
  omega
theorem ge_y {m n : Nat} {y : Int32} (e : y = kI (n : Int)) (hm : m ≤ 100000 ∧ n ≤ 100000) (b : y ≤ kI (m : Int)) : n ≤ m := by
  rw [e, kN_le (by omega) (by omega)] at b
  omega
theorem up_ind {N : Nat} {p : Nat → Prop} (step : ∀ m, m ≤ N → (m < N → p (m + 1)) → p m) (m : Nat) (hm : m ≤ N) : p m := by
  have key : ∀ k m, m + k = N → p m := by
    intro k
    induction k with
    | zero => intro m h; exact step m (by omega) (fun h2 => by omega)
    | succ k ih => intro m h; exact step m (by omega) (fun _ => ih (m + 1) (by omega))
  exact key (N - m) m (by omega)
theorem J_c {J : Nat → ac_X} {b : Nat} {ls ls' : ac_L} {st : List Value} {h : ac_H} {bg : Nat × Nat} (hj : J b ls' st h bg) (e : ls = ls') : J b ls st h bg := e ▸ hj
/-- what coming brings -/
def meetsV (V : VT) (s : Int32) : Bool := decide (kI (pc s : Int) = V 1)
def payV (V : VT) (s : Int32) (m : Nat) : Int32 := if hb s m = true then (if meetsV V s = true then V 2 else kI 0) - vC V m else kI 0
def gainV (V : VT) (s : Int32) (m : Nat) : Int32 := payV V (s ^^^ b1 m) m - payV V s m
def costV (V : VT) (s : Int32) (m : Nat) : Int32 := if hb s m = true then vC V m else kI 0
section C0
variable {ga : Nat → Nat} {L : Nat} {xs : Nat → Int32} {d : Nat} {h : ac_H} {P : ac_P} {ad : Nat → Nat} {w : Wst} {i : Nat} {V : VT}
theorem c_has {a m : Nat} {s x : Int32} (hx : x = kI (m : Int)) (hm : m < 32) (hP : P (.inl (some (.int (bI (hb s m))))) h) : WP ga L xs (d + 1) 8 [.ref a, .int s, .int x] h P := by
  subst hx
  refine WP.enter kX0_has (Nat.le_of_ble_eq_true rfl) (fun J hJ => ?_)
  refine hJ 0 _ _ rfl _ _ _ _ (x_iload rfl (x_iload rfl (x_ishr (x_sipush (x_iand (x_br (fun b1 => hJ 1 _ _ rfl _ _ _ _ (x_sipush (x_goto (hJ 2 _ _ rfl _ _ _ _ (x_iret (by first | exact nrwB _ | rfl | decide) ?_))))) (fun b1 => x_sipush (x_goto (hJ 2 _ _ rfl _ _ _ _ (x_iret (by first | exact nrwB _ | rfl | decide) ?_))))))))))
  · rw [shr_and1 hm] at b1
    rw [bI_eq0.mp b1] at hP
    exact hP
  · rw [shr_and1 hm] at b1
    rw [bI_ne0.mp b1] at hP
    exact hP
theorem c_bitc {n : Nat} {s : Int32} (hs : sok n s) (hP : P (.inl (some (.int (kI (pc s : Int))))) h) : WP ga L xs (d + 1) 249 [.int s] h P := by
  rw [← bcf_sok hs] at hP
  refine WP.enter kJ6_bitCount_0f7a4 (Nat.le_of_ble_eq_true rfl) (fun J hJ => ?_)
  exact hJ 0 _ _ rfl _ _ _ _ (x_iload rfl (x_iload rfl (x_sipush (x_iushr (x_sipush (x_iand (x_isub (x_istore rfl (x_iload rfl (x_sipush (x_iand (x_iload rfl (x_sipush (x_iushr (x_sipush (x_iand (x_iadd (x_istore rfl (x_iload rfl (x_iload rfl (x_sipush (x_iushr (x_iadd (x_sipush (x_iand (x_istore rfl (x_iload rfl (x_iload rfl (x_sipush (x_iushr (x_iadd (x_istore rfl (x_iload rfl (x_iload rfl (x_sipush (x_iushr (x_iadd (x_istore rfl (x_iload rfl (x_sipush (x_iand (x_iret (nrwI _) hP))))))))))))))))))))))))))))))))))))))))))
theorem c_meets {n : Nat} {s : Int32} (W : WW ad w h) (hC : isC i) (hR : CR w i V) (hs : sok n s) (hP : P (.inl (some (.int (bI (meetsV V s))))) h) : WP ga L xs (d + 2) 10 [.ref (ad i), .int s] h P := by
  refine WP.enter kX0_meets (Nat.le_of_ble_eq_true rfl) (fun J hJ => ?_)
  refine hJ 0 _ _ rfl _ _ _ _ (x_iload rfl (x_cs rfl (Nat.le_of_ble_eq_true rfl) (c_bitc hs (xk_go (x_aload rfl (w_geti W 0 1 hC.lt hC.sh rfl rfl (x_br2 (fun b1 => hJ 1 _ _ rfl _ _ _ _ (x_sipush (x_goto (hJ 2 _ _ rfl _ _ _ _ (x_iret (by first | exact nrwB _ | rfl | decide) ?_))))) (fun b1 => x_sipush (x_goto (hJ 2 _ _ rfl _ _ _ _ (x_iret (by first | exact nrwB _ | rfl | decide) ?_)))))))))))
  · have e : meetsV V s = false := by rw [hR.1.2.1] at b1; exact decide_eq_false b1
    rw [e] at hP
    exact hP
  · have e : meetsV V s = true := by rw [hR.1.2.1] at b1; exact decide_eq_true (Decidable.not_not.mp b1)
    rw [e] at hP
    exact hP
theorem c_payOf {n m : Nat} {s x : Int32} (W : WW ad w h) (hC : isC i) (hR : CR w i V) (hV : VOK V) (hs : sok n s) (hx : x = kI (m : Int)) (hm : m < nm V) (hP : P (.inl (some (.int (payV V s m)))) h) : WP ga L xs (d + 3) 11 [.ref (ad i), .int x, .int s] h P := by
  subst hx
  have hn := hV.n.2
  unfold payV at hP
  refine WP.enter kX0_payOf (Nat.le_of_ble_eq_true rfl) (fun J hJ => ?_)
  refine hJ 0 _ _ rfl _ _ _ _ (x_aload rfl (x_iload rfl (x_iload rfl (x_cv rfl (Nat.le_of_ble_eq_true rfl) (isO_W W hC.lt hC.sh) (c_has rfl (by omega) (xk_go (x_br (fun b1 => have b1 := bI_ne0.mp b1; hJ 1 _ _ rfl _ _ _ _ (x_aload rfl (x_iload rfl (x_cv rfl (Nat.le_of_ble_eq_true rfl) (isO_W W hC.lt hC.sh) (c_meets W hC hR hs (xk_go (x_br (fun b2 => have b2 := bI_eq0.mp b2; hJ 2 _ _ rfl _ _ _ _ (x_sipush (x_goto (hJ 3 _ _ rfl _ _ _ _ (x_aload rfl (w_getr W 0 12 (t := i + 3) hC.lt hC.sh rfl rfl (hC.rf3 _) (x_iload rfl (w_iald W _ hC.lt3 hC.sh3 rfl (by omega) (by decide) (x_isub (x_iret (nrwI _) ?_)))))))))) (fun b2 => have b2 := bI_ne0.mp b2; x_aload rfl (w_geti W 0 2 hC.lt hC.sh rfl rfl (x_goto (hJ 3 _ _ rfl _ _ _ _ (x_aload rfl (w_getr W 0 12 (t := i + 3) hC.lt hC.sh rfl rfl (hC.rf3 _) (x_iload rfl (w_iald W _ hC.lt3 hC.sh3 rfl (by omega) (by decide) (x_isub (x_iret (nrwI _) ?_))))))))))))))))) (fun b1 => have b1 := bI_nn b1; x_sipush (x_iret (nrwI _) ?_)))))))))
  · simp only [(hR.2.1 m hm).2.2]
    rw [if_pos b1, if_neg (by rw [b2]; decide)] at hP
    exact hP
  · simp only [(hR.2.1 m hm).2.2, hR.1.2.2.1]
    rw [if_pos b1, if_pos b2] at hP
    exact hP
  · rw [if_neg (by rw [b1]; decide)] at hP
    exact hP
theorem c_costOfAll {s : Int32} (W : WW ad w h) (hC : isC i) (hR : CR w i V) (hV : VOK V) (hP : P (.inl (some (.int (sm (costV V s) (nm V))))) h) : WP ga L xs (d + 2) 14 [.ref (ad i), .int s] h P := by
  have hn := hV.n.2
  refine WP.enter kX0_costOfAll (Nat.le_of_ble_eq_true rfl) (fun J hJ => ?_)
  have loop : ∀ m, m ≤ nm V → J 1 [some (.ref (ad i)), some (.int s), some (.int (sm (costV V s) m)), some (.int (kI (m : Int)))] [] h (0, 0) := up_ind (fun m hm ih => ?_)
  · exact hJ 0 _ _ rfl _ _ _ _ (x_sipush (x_istore rfl (x_sipush (x_istore rfl (x_goto (loop 0 (Nat.zero_le _)))))))
  refine hJ 1 _ _ rfl _ _ _ _ (x_iload rfl (x_aload rfl (w_geti W 0 4 hC.lt hC.sh rfl rfl (x_br2 (fun b1 => have b1 := ge_y (hR.n hV) (by omega) b1; hJ 4 _ _ rfl _ _ _ _ (x_iload rfl (x_iret (nrwI _) ?_))) (fun b1 => have b1 := ge_n (hR.n hV) (by omega) b1; x_iload rfl (x_aload rfl (x_iload rfl (x_iload rfl (x_cv rfl (Nat.le_of_ble_eq_true rfl) (isO_W W hC.lt hC.sh) (c_has rfl (by omega) (xk_go (x_br (fun b2 => have b2 := bI_eq0.mp b2; hJ 2 _ _ rfl _ _ _ _ (x_sipush (x_goto (hJ 3 _ _ rfl _ _ _ _ (x_iadd (x_istore rfl (x_iinc rfl rfl (x_goto (?_))))))))) (fun b2 => have b2 := bI_ne0.mp b2; x_aload rfl (w_getr W 0 12 (t := i + 3) hC.lt hC.sh rfl rfl (hC.rf3 _) (x_iload rfl (w_iald W _ hC.lt3 hC.sh3 rfl (by omega) (by decide) (x_goto (hJ 3 _ _ rfl _ _ _ _ (x_iadd (x_istore rfl (x_iinc rfl rfl (x_goto (?_)))))))))))))))))))))))
  · have e : m = nm V := by omega
    subst e
    exact hP
  · refine J_c (ih (by omega)) ?_
    simp only [sI, sm, costV, b2, kN_succ]
    rfl
  · refine J_c (ih (by omega)) ?_
    simp only [sI, sm, costV, b2, kN_succ, (hR.2.1 m b1).2.2, if_true]
end C0
end
section
/-! ===== sets, gains, thoughts: what is asked ===== -/
theorem cnt_congr {p q : Nat → Bool} : ∀ {n : Nat}, (∀ j, j < n → p j = q j) → cnt p n = cnt q n
  | 0, _ => rfl
  | n + 1, h => by
    unfold cnt
    rw [cnt_congr (n := n) (fun j hj => h j (by omega)), h n (by omega)]
theorem cnt_tog {p : Nat → Bool} {m : Nat} : ∀ {n : Nat}, m < n → cnt (fun j => p j ^^ decide (j = m)) n + (if p m = true then 1 else 0) = cnt p n + (if p m = true then 0 else 1)
  | 0, h => by omega
  | n + 1, h => by
    by_cases e : m = n
    · subst e
      have h1 : cnt (fun j => p j ^^ decide (j = m)) m = cnt p m := cnt_congr (fun j hj => by rw [decide_eq_false (by omega), Bool.xor_false])
      simp only [cnt, h1]
      cases p m <;> simp
    · have ih := cnt_tog (p := p) (m := m) (n := n) (by omega)
      have h2 : (p n ^^ decide (n = m)) = p n := by rw [decide_eq_false (by omega), Bool.xor_false]
      simp only [cnt, h2]
      omega
theorem pc_tog {s : Int32} {m : Nat} (hm : m < 12) : pc (s ^^^ b1 m) + (if hb s m = true then 1 else 0) = pc s + (if hb s m = true then 0 else 1) := by
  have h := cnt_tog (p := hb s) (m := m) (n := 12) hm
  have e : pc (s ^^^ b1 m) = cnt (fun j => hb s j ^^ decide (j = m)) 12 := cnt_congr (fun j _ => by rw [hb_xor, hb_b1' (by omega)])
  rw [e]
  exact h
theorem pc_in {s : Int32} {m : Nat} (hm : m < 12) (h : hb s m = true) : pc (s ^^^ b1 m) + 1 = pc s := by
  have := pc_tog (s := s) hm
  simp [h] at this
  omega
theorem pc_ex {s : Int32} {m : Nat} (hm : m < 12) (h : hb s m = false) : pc (s ^^^ b1 m) = pc s + 1 := by
  have := pc_tog (s := s) hm
  simp [h] at this
  omega
theorem sok.tog {n m : Nat} {s : Int32} (h : sok n s) (hm : m < n) : sok n (s ^^^ b1 m) := by
  have h1 := h.1
  refine ⟨h.1, fun j hj => ?_⟩
  rw [hb_xor, hb_b1' (by omega), h.2 j hj]
  simp
  omega
theorem sok.andl {n : Nat} {s t : Int32} (h : sok n s) : sok n (s &&& t) := ⟨h.1, fun j hj => by rw [hb_and, h.2 j hj]; rfl⟩
theorem sok.andr {n : Nat} {s t : Int32} (h : sok n t) : sok n (s &&& t) := ⟨h.1, fun j hj => by rw [hb_and, h.2 j hj, Bool.and_false]⟩
theorem sok.or {n : Nat} {s t : Int32} (h : sok n s) (g : sok n t) : sok n (s ||| t) := ⟨h.1, fun j hj => by rw [hb_or, h.2 j hj, g.2 j hj]; rfl⟩
theorem sok.zero {n : Nat} (h : n ≤ 12) : sok n (kI 0) := ⟨h, fun j _ => hb_zero j⟩
theorem sok.b1 {n m : Nat} (h : n ≤ 12) (hm : m < n) : sok n (b1 m) := ⟨h, fun j hj => by rw [hb_b1' (by omega)]; simp; omega⟩
theorem hb_tog {s : Int32} {m j : Nat} (hm : m < 31) : hb (s ^^^ b1 m) j = (hb s j ^^ decide (j = m)) := by rw [hb_xor, hb_b1' hm]
theorem hb_set {s : Int32} {m j : Nat} (hm : m < 31) : hb (s ||| b1 m) j = (hb s j || decide (j = m)) := by rw [hb_or, hb_b1' hm]
theorem hb_not {s : Int32} {j : Nat} (hj : j < 32) : hb (s ^^^ kI (-1)) j = !hb s j := by
  rw [hb_xor, hb_neg1 j hj]
  cases hb s j <;> rfl
theorem hb_lt {s : Int32} {j : Nat} (h : hb s j = true) : j < 32 := by
  by_cases e : j < 32
  · exact e
  · rw [hb_ge (by omega)] at h
    cases h
theorem hb_zero0 (j : Nat) : hb 0 j = false := hb_zero j
theorem eq_zero_iff {x : Int32} : x = 0 ↔ ∀ j, hb x j = false := by
  constructor
  · intro h j
    rw [h]
    exact hb_zero0 j
  · intro h
    exact hb_ext (fun j _ => by rw [h j, hb_zero0])
/-- a small number as an Int -/
theorem btw_k {x : Int32} {a b : Int} (h : btw x a b) : ∃ c : Int, x = kI c ∧ a ≤ c ∧ c ≤ b := ⟨x.toInt, (kI_of x).symm, h.1, h.2⟩
theorem VOK.q {V : VT} (h : VOK V) : ∃ q : Nat, V 1 = kI (q : Int) ∧ 1 ≤ q ∧ q ≤ 12 := by
  obtain ⟨c, h1, h2, h3⟩ := btw_k h.1.2.1
  exact ⟨c.toNat, by rw [h1, Int.toNat_of_nonneg (by omega)], by omega, by omega⟩
theorem meets_iff {V : VT} {s : Int32} {q : Nat} (hq : V 1 = kI (q : Int)) (h : q ≤ 12) : meetsV V s = decide (pc s = q) := by
  have h1 := pc_le s
  unfold meetsV
  rw [hq]
  simp only [kN_inj (a := pc s) (b := q) (by omega) (by omega)]
theorem gain_pos {V : VT} {s : Int32} {m q : Nat} (hV : VOK V) (hm : m < nm V) (hq : V 1 = kI (q : Int)) (hq12 : q ≤ 12) :
    (0 < gainV V s m) ↔ (if hb s m = true then (if pc s = q then V 2 < vC V m else 0 < vC V m) else (pc s + 1 = q ∧ vC V m < V 2)) := by
  have hn := hV.n.2
  obtain ⟨c, hc, c1, c2⟩ := btw_k (hV.2.1 m hm).2.2.1
  obtain ⟨D, hD, d1, d2⟩ := btw_k hV.1.2.2.1
  have z : (0 : Int32) = kI 0 := rfl
  unfold gainV payV
  rw [meets_iff hq hq12, meets_iff hq hq12, hb_tog (by omega), hc, hD, z]
  by_cases e : hb s m = true
  · simp only [e, decide_true, Bool.true_xor, Bool.not_true, Bool.false_eq_true, if_false, if_true, decide_eq_true_eq]
    by_cases g : pc s = q
    · simp only [g, if_true, kI_sub]
      rw [kI_lt (by omega) (by omega) (by omega) (by omega), kI_lt (by omega) (by omega) (by omega) (by omega)]
      omega
    · simp only [g, if_false, kI_sub]
      rw [kI_lt (by omega) (by omega) (by omega) (by omega), kI_lt (by omega) (by omega) (by omega) (by omega)]
      omega
  · have e : hb s m = false := by simpa using e
    have e2 := pc_ex (s := s) (m := m) (by omega) e
    simp only [e, e2, decide_true, Bool.false_xor, Bool.false_eq_true, if_false, if_true, decide_eq_true_eq]
    by_cases g : pc s + 1 = q
    · simp only [g, if_true, kI_sub, true_and]
      rw [kI_lt (by omega) (by omega) (by omega) (by omega), kI_lt (by omega) (by omega) (by omega) (by omega)]
      omega
    · simp only [g, if_false, kI_sub, false_and, iff_false]
      rw [kI_lt (by omega) (by omega) (by omega) (by omega)]
      omega
def restV (V : VT) (s : Int32) : Bool := decide (∀ m, m < nm V → ¬ 0 < gainV V s m)
/-- who is eager, as a set -/
def eagerP (V : VT) (s e : Int32) : Prop := ∀ m, hb e m = (decide (m < nm V) && decide (0 < gainV V s m))
theorem eager_zero {V : VT} {s e : Int32} (h : eagerP V s e) : e = 0 ↔ restV V s = true := by
  rw [eq_zero_iff]
  unfold restV
  rw [decide_eq_true_eq]
  constructor
  · intro h1 m hm
    have := h1 m
    rw [h m] at this
    simpa [hm] using this
  · intro h1 m
    rw [h m]
    by_cases hm : m < nm V
    · simp [hm, h1 m hm]
    · simp [hm]
/-- sets told by what holds of each -/
def mkS (p : Nat → Bool) : Nat → Int32
  | 0 => kI 0
  | n + 1 => mkS p n ||| (if p n = true then b1 n else kI 0)
theorem hb_mkS {p : Nat → Bool} {j : Nat} : ∀ {n : Nat}, n ≤ 31 → hb (mkS p n) j = (decide (j < n) && p j)
  | 0, _ => by
    unfold mkS
    rw [hb_zero]
    simp
  | n + 1, h => by
    unfold mkS
    rw [hb_or, hb_mkS (n := n) (by omega)]
    have e : hb (if p n = true then b1 n else kI 0) j = (p n && decide (j = n)) := by
      cases p n
      · simp [hb_zero]
      · simp [hb_b1' (m := n) (j := j) (by omega)]
    rw [e]
    by_cases h1 : j = n
    · subst h1
      simp
    · by_cases h2 : j < n
      · simp [h2, h1, show j < n + 1 by omega]
      · simp [h2, h1, show ¬ j < n + 1 by omega]
theorem sok.mkS {p : Nat → Bool} {n : Nat} (h : n ≤ 12) : sok n (mkS p n) := ⟨h, fun j hj => by rw [hb_mkS (by omega)]; simp; omega⟩
theorem mkS_congr {p q : Nat → Bool} : ∀ {n : Nat}, (∀ j, j < n → p j = q j) → mkS p n = mkS q n
  | 0, _ => rfl
  | n + 1, h => by
    unfold mkS
    rw [mkS_congr (n := n) (fun j hj => h j (by omega)), h n (by omega)]
/-- who thinks of coming, given who came -/
def thinkP (V : VT) (s : Int32) (m : Nat) : Bool := decide (kI (pc (s &&& (b1 m ^^^ kI (-1))) : Int) + kI 1 = V 1) && decide (vC V m < V 2)
def think1 (V : VT) (s : Int32) : Int32 := mkS (thinkP V s) (nm V)
def thoughtsV (V : VT) (s : Int32) : Nat → Int32
  | 0 => s
  | d + 1 => think1 V (thoughtsV V s d)
theorem pc_without {s : Int32} {m : Nat} (hm : m < 12) : pc (s &&& (b1 m ^^^ kI (-1))) + (if hb s m = true then 1 else 0) = pc s := by
  by_cases e : hb s m = true
  · have h1 : s &&& (b1 m ^^^ kI (-1)) = s ^^^ b1 m := hb_ext (fun j hj => by
      rw [hb_and, hb_not hj, hb_tog (by omega), hb_b1' (by omega)]
      by_cases ej : j = m
      · subst ej; simp [e]
      · simp [ej])
    rw [h1, if_pos e]
    exact pc_in hm e
  · have e : hb s m = false := by simpa using e
    have h1 : s &&& (b1 m ^^^ kI (-1)) = s := hb_ext (fun j hj => by
      rw [hb_and, hb_not hj, hb_b1' (by omega)]
      by_cases ej : j = m
      · subst ej; simp [e]
      · simp [ej])
    rw [h1, if_neg (by rw [e]; decide)]
    rfl
theorem thinkP_eq {V : VT} {s : Int32} {m q : Nat} (hm : m < 12) (hq : V 1 = kI (q : Int)) (hq12 : q ≤ 12) : thinkP V s m = (decide (pc s + (if hb s m = true then 0 else 1) = q) && decide (vC V m < V 2)) := by
  have h1 := pc_without (s := s) hm
  have h2 := pc_le (s &&& (b1 m ^^^ kI (-1)))
  unfold thinkP
  rw [hq, kN_succ]
  congr 1
  simp only [kN_inj (a := pc (s &&& (b1 m ^^^ kI (-1))) + 1) (b := q) (by omega) (by omega), decide_eq_decide]
  by_cases e : hb s m = true
  · simp only [e, if_true] at h1 ⊢
    omega
  · simp only [e] at h1 ⊢
    simp at h1 ⊢
    omega
theorem sok.thoughts {V : VT} {s : Int32} (hV : VOK V) (hs : sok (nm V) s) : ∀ d, sok (nm V) (thoughtsV V s d)
  | 0 => hs
  | _ + 1 => sok.mkS hV.n.2
end
section
/-! ===== a club: gains, sums, thoughts ===== -/
def imax (x y : Int32) : Int32 := if y ≤ x then x else y
def payAllV (V : VT) (s : Int32) : Int32 := sm (payV V s) (nm V)
def bribeV (V : VT) (s : Int32) : Int32 := sm (fun m => imax (kI 0) (gainV V s m)) (nm V)
def strongV (V : VT) (s : Int32) : Bool := restV V s && decide (∀ a, a < nm V → ∀ b, b < nm V → a < b → ¬ (payV V s a < payV V (s ^^^ b1 a ^^^ b1 b) a ∧ payV V s b < payV V (s ^^^ b1 a ^^^ b1 b) b))
def hatsV (V : VT) (come : Int32) (m : Nat) : Int32 := mkS (fun j => hb come j || decide (vU V j = 1)) m
def bySee (V : VT) (m : Nat) (x : Int32) : Bool := if vR V m = kI 7 then decide (x < vN V m) else decide (x = vN V m)
def everyV (V : VT) : Int32 := b1 (nm V) - kI 1
def lastV (V : VT) : Int32 := if 0 < wk V then vS V (wk V - 1) else kI 0
theorem b1_pred : ∀ n, n < 31 → ∀ j, j < 32 → hb (b1 n - kI 1) j = decide (j < n) := by decide +kernel
theorem hb_pred {n j : Nat} (hn : n < 31) : hb (b1 n - kI 1) j = decide (j < n) := by
  by_cases hj : j < 32
  · exact b1_pred n hn j hj
  · rw [hb_ge (by omega)]
    simp
    omega
theorem payAll_eq {V : VT} {s : Int32} (hV : VOK V) (hs : sok (nm V) s) : payAllV V s = (if meetsV V s = true then V 2 * V 1 else kI 0) - sm (costV V s) (nm V) := by
  have key : ∀ n, sm (payV V s) n = (if meetsV V s = true then V 2 else kI 0) * kI (cnt (hb s) n : Int) - sm (costV V s) n := by
    intro n
    induction n with
    | zero =>
      show kI 0 = _ * kI 0 - kI 0
      rw [show kI 0 = (0 : Int32) from rfl]
      grind
    | succ n ih =>
      unfold sm cnt
      rw [ih]
      unfold payV costV
      by_cases e : hb s n = true
      · simp only [e, if_true]
        rw [← kN_succ, kI_one]
        grind
      · simp only [e]
        rw [show kI 0 = (0 : Int32) from rfl]
        grind
  have e1 : cnt (hb s) (nm V) = pc s := by
    have h1 := hV.n.2
    have : ∀ k, nm V ≤ k → cnt (hb s) k = cnt (hb s) (nm V) := by
      intro k
      induction k with
      | zero => intro h; rw [show nm V = 0 by omega]
      | succ k ih =>
        intro h
        by_cases e : nm V = k + 1
        · rw [e]
        · show cnt (hb s) k + (if hb s k = true then 1 else 0) = _
          rw [hs.2 k (by omega), ih (by omega)]
          rfl
    exact (this 12 h1).symm
  unfold payAllV
  rw [key, e1]
  by_cases e : meetsV V s = true
  · have : kI (pc s : Int) = V 1 := of_decide_eq_true e
    simp only [e, if_true, this]
  · simp only [e]
    rw [show kI 0 = (0 : Int32) from rfl]
    simp
theorem two_of {q : Nat → Bool} : ∀ n, 2 ≤ cnt q n ↔ ∃ a b, a < b ∧ b < n ∧ q a = true ∧ q b = true
  | 0 => by simp [cnt]
  | n + 1 => by
    have ih := two_of (q := q) n
    have one : ∀ n, 1 ≤ cnt q n ↔ ∃ a, a < n ∧ q a = true := by
      intro n
      induction n with
      | zero => simp [cnt]
      | succ n ih =>
        unfold cnt
        by_cases e : q n = true
        · simp only [e, if_true]
          exact ⟨fun _ => ⟨n, by omega, e⟩, fun _ => by omega⟩
        · simp only [e]
          constructor
          · intro h
            obtain ⟨a, h1, h2⟩ := ih.mp (by simpa using h)
            exact ⟨a, by omega, h2⟩
          · rintro ⟨a, h1, h2⟩
            have : a ≠ n := fun z => e (z ▸ h2)
            have := ih.mpr ⟨a, by omega, h2⟩
            simpa using this
    unfold cnt
    by_cases e : q n = true
    · simp only [e, if_true]
      constructor
      · intro h
        obtain ⟨a, h1, h2⟩ := (one n).mp (by omega)
        exact ⟨a, n, h1, by omega, h2, e⟩
      · rintro ⟨a, b, h1, h2, h3, h4⟩
        have := (one n).mpr ⟨a, by omega, h3⟩
        omega
    · simp only [e]
      constructor
      · intro h
        obtain ⟨a, b, h1, h2, h3, h4⟩ := ih.mp (by simpa using h)
        exact ⟨a, b, h1, by omega, h3, h4⟩
      · rintro ⟨a, b, h1, h2, h3, h4⟩
        have : b ≠ n := fun z => e (z ▸ h4)
        have := ih.mpr ⟨a, b, h1, by omega, h3, h4⟩
        simpa using this
theorem strong_eq {V : VT} {s u : Int32} {q : Nat} (hV : VOK V) (hs : sok (nm V) s) (hq : V 1 = kI (q : Int)) (hq12 : q ≤ 12) (hu : ∀ m, hb u m = (decide (m < nm V) && decide (vC V m < V 2))) (hr : restV V s = true) :
    strongV V s = (!decide (pc s + 2 = q) || decide (pc (u &&& (s ^^^ kI (-1))) < 2)) := by
  have hn := hV.n.2
  have hrest : ∀ m, m < nm V → ¬ 0 < gainV V s m := of_decide_eq_true hr
  have hno : ∀ m, m < nm V → hb s m = true → ¬ payV V s m < kI 0 := by
    intro m hm he
    have h1 := hrest m hm
    rw [gain_pos hV hm hq hq12, if_pos he] at h1
    obtain ⟨c, hc, c1, c2⟩ := btw_k (hV.2.1 m hm).2.2.1
    obtain ⟨D, hD, d1, d2⟩ := btw_k hV.1.2.2.1
    unfold payV
    rw [if_pos he, meets_iff hq hq12]
    rw [hc, hD] at h1 ⊢
    by_cases g : pc s = q
    · rw [if_pos g, kI_lt (by omega) (by omega) (by omega) (by omega)] at h1
      rw [if_pos (decide_eq_true g), kI_sub, kI_lt (by omega) (by omega) (by omega) (by omega)]
      omega
    · rw [if_neg g, show (0 : Int32) = kI 0 from rfl, kI_lt (by omega) (by omega) (by omega) (by omega)] at h1
      rw [if_neg (by simp [g]), kI_sub, kI_lt (by omega) (by omega) (by omega) (by omega)]
      omega
  have hpair : ∀ a, a < nm V → ∀ b, b < nm V → a ≠ b → (payV V s a < payV V (s ^^^ b1 a ^^^ b1 b) a ↔ (hb s a = false ∧ (if hb s b = true then pc s = q else pc s + 2 = q) ∧ vC V a < V 2)) := by
    intro a ha b hb9 hab
    have e1 : hb (s ^^^ b1 a ^^^ b1 b) a = !hb s a := by
      rw [hb_tog (by omega), hb_tog (by omega)]
      simp [hab]
    by_cases ea : hb s a = true
    · have h0 := hno a ha ea
      rw [ea] at e1
      have e2 : payV V (s ^^^ b1 a ^^^ b1 b) a = kI 0 := by
        unfold payV
        rw [e1]
        rfl
      rw [e2]
      constructor
      · intro h
        exact absurd h h0
      · intro h
        rw [ea] at h
        exact absurd h.1 (by decide)
    · have ea : hb s a = false := by simpa using ea
      rw [ea] at e1
      obtain ⟨c, hc, c1, c2⟩ := btw_k (hV.2.1 a ha).2.2.1
      obtain ⟨D, hD, d1, d2⟩ := btw_k hV.1.2.2.1
      have e2 : payV V s a = kI 0 := by
        unfold payV
        rw [ea]
        rfl
      have eb : hb (s ^^^ b1 a) b = hb s b := by
        rw [hb_tog (by omega)]
        simp [Ne.symm hab]
      have p1 := pc_ex (s := s) (m := a) (by omega) ea
      rw [e2]
      unfold payV
      rw [if_pos (by rw [e1]; rfl), meets_iff hq hq12, hc, hD]
      by_cases eb2 : hb s b = true
      · have p2 := pc_in (s := s ^^^ b1 a) (m := b) (by omega) (eb.trans eb2)
        have p3 : pc (s ^^^ b1 a ^^^ b1 b) = pc s := by omega
        rw [p3, if_pos eb2]
        by_cases g : pc s = q
        · rw [if_pos (decide_eq_true g), kI_sub, kI_lt (by omega) (by omega) (by omega) (by omega), kI_lt (by omega) (by omega) (by omega) (by omega)]
          constructor
          · intro h; exact ⟨ea, g, by omega⟩
          · rintro ⟨-, -, h⟩; omega
        · rw [if_neg (by simp [g]), kI_sub, kI_lt (by omega) (by omega) (by omega) (by omega), kI_lt (by omega) (by omega) (by omega) (by omega)]
          constructor
          · intro h; omega
          · rintro ⟨-, h, -⟩; exact absurd h g
      · have p2 := pc_ex (s := s ^^^ b1 a) (m := b) (by omega) (by rw [eb]; simpa using eb2)
        have p3 : pc (s ^^^ b1 a ^^^ b1 b) = pc s + 2 := by omega
        rw [p3, if_neg eb2]
        by_cases g : pc s + 2 = q
        · rw [if_pos (decide_eq_true g), kI_sub, kI_lt (by omega) (by omega) (by omega) (by omega), kI_lt (by omega) (by omega) (by omega) (by omega)]
          constructor
          · intro h; exact ⟨ea, g, by omega⟩
          · rintro ⟨-, -, h⟩; omega
        · rw [if_neg (by simp [g]), kI_sub, kI_lt (by omega) (by omega) (by omega) (by omega), kI_lt (by omega) (by omega) (by omega) (by omega)]
          constructor
          · intro h; omega
          · rintro ⟨-, h, -⟩; exact absurd h g
  have hc2 : (2 ≤ pc (u &&& (s ^^^ kI (-1)))) ↔ ∃ a b, a < b ∧ b < nm V ∧ (hb s a = false ∧ vC V a < V 2) ∧ (hb s b = false ∧ vC V b < V 2) := by
    unfold pc
    rw [two_of]
    constructor
    · rintro ⟨a, b, h1, h2, h3, h4⟩
      rw [hb_and, hb_not (by omega), hu] at h3 h4
      simp only [Bool.and_eq_true, decide_eq_true_eq, Bool.not_eq_true'] at h3 h4
      exact ⟨a, b, h1, h4.1.1, ⟨h3.2, h3.1.2⟩, ⟨h4.2, h4.1.2⟩⟩
    · rintro ⟨a, b, h1, h2, h3, h4⟩
      refine ⟨a, b, h1, by omega, ?_, ?_⟩
      · rw [hb_and, hb_not (by omega), hu, h3.1]
        simp [h3.2, show a < nm V by omega]
      · rw [hb_and, hb_not (by omega), hu, h4.1]
        simp [h4.2, show b < nm V by omega]
  unfold strongV
  rw [hr, Bool.true_and]
  by_cases g : pc s + 2 = q
  · rw [decide_eq_true g]
    simp only [Bool.not_true, Bool.false_or, decide_eq_decide]
    constructor
    · intro h
      refine Nat.lt_of_not_le (fun h2 => ?_)
      obtain ⟨a, b, h3, h4, h5, h6⟩ := hc2.mp h2
      have x1 : hb s a = false := h5.1
      have x2 : hb s b = false := h6.1
      refine h a (by omega) b h4 h3 ⟨(hpair a (by omega) b h4 (by omega)).mpr ⟨x1, by rw [x2]; simpa using g, h5.2⟩, ?_⟩
      have := (hpair b h4 a (by omega) (by omega)).mpr ⟨x2, by rw [x1]; simpa using g, h6.2⟩
      rw [Int32.xor_assoc, Int32.xor_comm (b1 a), ← Int32.xor_assoc]
      exact this
    · intro h a ha b hb9 hab hh
      have y1 := (hpair a ha b hb9 (by omega)).mp hh.1
      have y2 : payV V s b < payV V (s ^^^ b1 b ^^^ b1 a) b := by
        rw [Int32.xor_assoc, Int32.xor_comm (b1 b), ← Int32.xor_assoc]
        exact hh.2
      have y2 := (hpair b hb9 a ha (by omega)).mp y2
      have := hc2.mpr ⟨a, b, hab, hb9, ⟨y1.1, y1.2.2⟩, ⟨y2.1, y2.2.2⟩⟩
      omega
  · rw [decide_eq_false g]
    simp only [Bool.not_false, Bool.true_or, decide_eq_true_eq]
    intro a ha b hb9 hab hh
    have y1 := (hpair a ha b hb9 (by omega)).mp hh.1
    have y2 : payV V s b < payV V (s ^^^ b1 b ^^^ b1 a) b := by
      rw [Int32.xor_assoc, Int32.xor_comm (b1 b), ← Int32.xor_assoc]
      exact hh.2
    have y2 := (hpair b hb9 a ha (by omega)).mp y2
    rw [y2.1] at y1
    exact g (by simpa using y1.2.1)
end
section
/-! ===== a club: the walks ===== -/
section C0
variable {ga : Nat → Nat} {L : Nat} {xs : Nat → Int32} {d : Nat} {h : ac_H} {P : ac_P} {ad : Nat → Nat} {w : Wst} {i : Nat} {V : VT}
theorem c_max {x y : Int32} (hP : P (.inl (some (.int (imax x y)))) h) : WP ga L xs (d + 1) 253 [.int x, .int y] h P := by
  unfold imax at hP
  refine WP.enter kJ9_max_7cf53 (Nat.le_of_ble_eq_true rfl) (fun J hJ => ?_)
  refine hJ 0 _ _ rfl _ _ _ _ (x_iload rfl (x_iload rfl (x_br2 (fun b1 => hJ 1 _ _ rfl _ _ _ _ (x_iload rfl (x_goto (hJ 2 _ _ rfl _ _ _ _ (x_iret (nrwI _) ?_))))) (fun b1 => x_iload rfl (x_goto (hJ 2 _ _ rfl _ _ _ _ (x_iret (nrwI _) ?_)))))))
  · rw [if_neg (nl_le b1)] at hP
    exact hP
  · rw [if_pos (nn_lt b1)] at hP
    exact hP
theorem c_gainOf {m : Nat} {s x : Int32} (W : WW ad w h) (hC : isC i) (hR : CR w i V) (hV : VOK V) (hs : sok (nm V) s) (hx : x = kI (m : Int)) (hm : m < nm V) (hP : P (.inl (some (.int (gainV V s m)))) h) : WP ga L xs (d + 4) 12 [.ref (ad i), .int x, .int s] h P := by
  subst hx
  have hn := hV.n.2
  refine WP.enter kX0_gainOf (Nat.le_of_ble_eq_true rfl) (fun J hJ => ?_)
  exact hJ 0 _ _ rfl _ _ _ _ (x_aload rfl (x_iload rfl (x_iload rfl (x_sipush (x_iload rfl (x_shl1 (by omega) (x_ixor (x_cv rfl (Nat.le_of_ble_eq_true rfl) (isO_W W hC.lt hC.sh) (c_payOf W hC hR hV (hs.tog hm) rfl hm (xk_go (x_aload rfl (x_iload rfl (x_iload rfl (x_cv rfl (Nat.le_of_ble_eq_true rfl) (isO_W W hC.lt hC.sh) (c_payOf W hC hR hV hs rfl hm (xk_go (x_isub (x_iret (nrwI _) hP))))))))))))))))))
theorem c_payOfAll {s : Int32} (W : WW ad w h) (hC : isC i) (hR : CR w i V) (hV : VOK V) (hs : sok (nm V) s) (hP : P (.inl (some (.int (payAllV V s)))) h) : WP ga L xs (d + 3) 13 [.ref (ad i), .int s] h P := by
  rw [payAll_eq hV hs] at hP
  refine WP.enter kX0_payOfAll (Nat.le_of_ble_eq_true rfl) (fun J hJ => ?_)
  refine hJ 0 _ _ rfl _ _ _ _ (x_aload rfl (x_iload rfl (x_cv rfl (Nat.le_of_ble_eq_true rfl) (isO_W W hC.lt hC.sh) (c_meets W hC hR hs (xk_go (x_br (fun b1 => have b1 := bI_eq0.mp b1; hJ 1 _ _ rfl _ _ _ _ (x_sipush (x_goto (hJ 2 _ _ rfl _ _ _ _ (x_istore rfl (x_iload rfl (x_aload rfl (x_iload rfl (x_cv rfl (Nat.le_of_ble_eq_true rfl) (isO_W W hC.lt hC.sh) (c_costOfAll W hC hR hV (xk_go (x_isub (x_iret (nrwI _) ?_))))))))))))) (fun b1 => have b1 := bI_ne0.mp b1; x_aload rfl (w_geti W 0 2 hC.lt hC.sh rfl rfl (x_aload rfl (w_geti W 0 1 hC.lt hC.sh rfl rfl (x_imul (x_goto (hJ 2 _ _ rfl _ _ _ _ (x_istore rfl (x_iload rfl (x_aload rfl (x_iload rfl (x_cv rfl (Nat.le_of_ble_eq_true rfl) (isO_W W hC.lt hC.sh) (c_costOfAll W hC hR hV (xk_go (x_isub (x_iret (nrwI _) ?_))))))))))))))))))))))
  · rw [if_neg (by rw [b1]; decide)] at hP
    exact hP
  · rw [if_pos b1] at hP
    rw [hR.1.2.1, hR.1.2.2.1]
    exact hP
theorem c_bribeFor {s : Int32} (W : WW ad w h) (hC : isC i) (hR : CR w i V) (hV : VOK V) (hs : sok (nm V) s) (hP : P (.inl (some (.int (bribeV V s)))) h) : WP ga L xs (d + 5) 15 [.ref (ad i), .int s] h P := by
  have hn := hV.n.2
  refine WP.enter kX0_bribeFor (Nat.le_of_ble_eq_true rfl) (fun J hJ => ?_)
  have loop : ∀ m, m ≤ nm V → J 1 [some (.ref (ad i)), some (.int s), some (.int (sm (fun m => imax (kI 0) (gainV V s m)) m)), some (.int (kI (m : Int)))] [] h (0, 0) := up_ind (fun m hm ih => ?_)
  · exact hJ 0 _ _ rfl _ _ _ _ (x_sipush (x_istore rfl (x_sipush (x_istore rfl (x_goto (loop 0 (Nat.zero_le _)))))))
  refine hJ 1 _ _ rfl _ _ _ _ (x_iload rfl (x_aload rfl (w_geti W 0 4 hC.lt hC.sh rfl rfl (x_br2 (fun b1 => have b1 := ge_y (hR.n hV) (by omega) b1; hJ 2 _ _ rfl _ _ _ _ (x_iload rfl (x_iret (nrwI _) ?_))) (fun b1 => have b1 := ge_n (hR.n hV) (by omega) b1; x_iload rfl (x_sipush (x_aload rfl (x_iload rfl (x_iload rfl (x_cv rfl (Nat.le_of_ble_eq_true rfl) (isO_W W hC.lt hC.sh) (c_gainOf W hC hR hV hs rfl (by omega) (xk_go (x_cs rfl (Nat.le_of_ble_eq_true rfl) (c_max (xk_go (x_iadd (x_istore rfl (x_iinc rfl rfl (x_goto (?_))))))))))))))))))))
  · have e : m = nm V := by omega
    subst e
    exact hP
  · refine J_c (ih (by omega)) ?_
    simp only [sI, sm, kN_succ]
theorem c_eager {s : Int32} (W : WW ad w h) (hC : isC i) (hR : CR w i V) (hV : VOK V) (hs : sok (nm V) s) (hP : ∀ e, eagerP V s e → P (.inl (some (.int e))) h) : WP ga L xs (d + 2) 16 [.ref (ad i), .int s] h P := by
  have hn := hV.n.2
  obtain ⟨q, hq, q1, q2⟩ := hV.q
  have hp := pc_le s
  obtain ⟨r1, r2, r3, r4, r5, r6, r7⟩ := hR
  have eq : wn w i 1 = kI (q : Int) := r1.2.1.trans hq
  refine WP.enter kX0_eager (Nat.le_of_ble_eq_true rfl) (fun J hJ => ?_)
  refine hJ 0 _ _ rfl _ _ _ _ (x_iload rfl (x_cs rfl (Nat.le_of_ble_eq_true rfl) (c_bitc hs (xk_go (x_istore rfl (x_iload rfl (x_aload rfl (w_geti W 0 1 hC.lt hC.sh rfl rfl (x_br2 (fun b1 => hJ 1 _ _ rfl _ _ _ _ (x_iload rfl (x_aload rfl (w_geti W 0 8 hC.lt hC.sh rfl rfl (x_iand (x_istore rfl (x_iload rfl (x_sipush (x_iadd (x_aload rfl (w_geti W 0 1 hC.lt hC.sh rfl rfl (x_br2 (fun b2 => hJ 2 _ _ rfl _ _ _ _ (x_iload rfl (x_goto (hJ 3 _ _ rfl _ _ _ _ (x_iret (nrwI _) ?_))))) (fun b2 => x_iload rfl (x_aload rfl (w_geti W 0 7 hC.lt hC.sh rfl rfl (x_iload rfl (x_sipush (x_ixor (x_iand (x_ior (x_goto (hJ 3 _ _ rfl _ _ _ _ (x_iret (nrwI _) ?_))))))))))))))))))))))) (fun b1 => x_iload rfl (x_aload rfl (w_geti W 0 9 hC.lt hC.sh rfl rfl (x_iand (x_iret (nrwI _) ?_))))))))))))))
  · refine hP _ (fun m => ?_)
    rw [eq, kN_succ] at b2
    have b1 : ¬ pc s = q := fun z => b1 (by rw [eq, z])
    have b2 : ¬ pc s + 1 = q := fun z => b2 (by rw [z])
    by_cases hm : m < nm V
    · rw [hb_and, r6]
      have := gain_pos (s := s) hV hm hq q2
      by_cases e : hb s m = true <;> simp only [e] at this ⊢ <;> simp [this, b1, b2, hm]
    · rw [hb_and, hs.2 m (by omega)]
      simp [hm]
  · refine hP _ (fun m => ?_)
    have b1 : ¬ pc s = q := fun z => b1 (by rw [eq, z])
    have b2 : pc s + 1 = q := by
      rw [eq, kN_succ] at b2
      exact (kN_inj (by omega) (by omega)).mp (Decidable.not_not.mp b2)
    by_cases hm : m < nm V
    · rw [hb_or, hb_and, hb_and, r6, r5, hb_not (by omega)]
      have := gain_pos (s := s) hV hm hq q2
      by_cases e : hb s m = true <;> simp only [e] at this ⊢ <;> simp [this, b1, b2, hm]
    · rw [hb_or, hb_and, hb_and, r5, hs.2 m (by omega)]
      simp [hm]
  · refine hP _ (fun m => ?_)
    have b1 : pc s = q := by
      rw [eq] at b1
      exact (kN_inj (by omega) (by omega)).mp (Decidable.not_not.mp b1)
    by_cases hm : m < nm V
    · rw [hb_and, r7]
      have := gain_pos (s := s) hV hm hq q2
      by_cases e : hb s m = true <;> simp only [e] at this ⊢ <;> simp [this, b1, hm]
    · rw [hb_and, hs.2 m (by omega)]
      simp [hm]
end C0
end
section
/-! ===== a club: its weeks ===== -/
def fo {β : Type} (f : Nat → β → β) (b : β) : Nat → β
  | 0 => b
  | n + 1 => f n (fo f b n)
def wksV (V : VT) (s : Int32) : Int32 := sm (fun j => bI (decide (vS V j &&& s = s))) (wk V)
def dinV (V : VT) (m : Nat) : Int32 := sm (fun j => bI (hb (vS V j) m && meetsV V (vS V j))) (wk V)
def justV (V : VT) (k : Int32) (u : Nat) : Int32 := sm (fun j => bI (decide (kI (pc (vS V j) : Int) = k))) u
def comersV (V : VT) (u : Nat) : Int32 := sm (fun j => kI (pc (vS V j) : Int)) u
def mostF (V : VT) (u : Nat) (k : Nat) (b : Int32 × Int32) : Int32 × Int32 := if b.2 < justV V (kI k) u then (kI k, justV V (kI k) u) else b
def mostV (V : VT) (u : Nat) : Int32 := (fo (mostF V u) (kI 0, kI 0) (nm V + 1)).1
def cookV (V : VT) (c : Int32) (u : Nat) : Int32 := if u = 0 then kI (-1) else if c = kI 0 then kI (pc (vS V (u - 1)) : Int) else if c = kI 1 then comersV V u / kI (u : Int) else if c = kI 2 then mostV V u else V 1
def learnerV (V : VT) : Bool := decide (∃ m, m < nm V ∧ vR V m = kI 10)
theorem kN_pred {u : Nat} (h : 1 ≤ u) : kI (u : Int) - kI 1 = kI ((u - 1 : Nat) : Int) := by
  rw [kI_sub]
  congr 1
  omega
theorem gt_n {m n : Nat} {y : Int32} (e : y = kI (n : Int)) (hm : m ≤ 100000 ∧ n ≤ 100000) (b : ¬ y < kI (m : Int)) : m ≤ n := by
  rw [e, kN_lt (by omega) (by omega)] at b
  omega
theorem gt_y {m n : Nat} {y : Int32} (e : y = kI (n : Int)) (hm : m ≤ 100000 ∧ n ≤ 100000) (b : y < kI (m : Int)) : n < m := by
  rw [e, kN_lt (by omega) (by omega)] at b
  omega
/-- a count against zero -/
theorem k_gt0n {n : Nat} (hn : n ≤ 100000) (b : 0 < kI (n : Int)) : 1 ≤ n := by
  rw [show (0 : Int32) = kI ((0 : Nat) : Int) from rfl, kN_lt (by omega) (by omega)] at b
  omega
theorem k_le0n {n : Nat} (hn : n ≤ 100000) (b : ¬ 0 < kI (n : Int)) : n = 0 := by
  rw [show (0 : Int32) = kI ((0 : Nat) : Int) from rfl, kN_lt (by omega) (by omega)] at b
  omega
theorem k_le0 {n : Nat} {y : Int32} (e : y = kI (n : Int)) (hn : n ≤ 100000) (b : y ≤ 0) : n = 0 := by
  rw [e, show (0 : Int32) = kI ((0 : Nat) : Int) from rfl, kN_le (by omega) (by omega)] at b
  omega
theorem k_gt0 {n : Nat} {y : Int32} (e : y = kI (n : Int)) (hn : n ≤ 100000) (b : ¬ y ≤ 0) : 1 ≤ n := by
  rw [e, show (0 : Int32) = kI ((0 : Nat) : Int) from rfl, kN_le (by omega) (by omega)] at b
  omega
section C0
variable {ga : Nat → Nat} {L : Nat} {xs : Nat → Int32} {d : Nat} {h : ac_H} {P : ac_P} {ad : Nat → Nat} {w : Wst} {i : Nat} {V : VT}
theorem c_everyone (W : WW ad w h) (hC : isC i) (hR : CR w i V) (hV : VOK V) (hP : P (.inl (some (.int (everyV V)))) h) : WP ga L xs (d + 1) 7 [.ref (ad i)] h P := by
  have hn := hV.n.2
  refine WP.enter kX0_everyone (Nat.le_of_ble_eq_true rfl) (fun J hJ => ?_)
  refine hJ 0 _ _ rfl _ _ _ _ (x_sipush (x_aload rfl (w_geti W 0 4 hC.lt hC.sh rfl rfl (x_ishl (x_sipush (x_isub (x_iret (nrwI _) ?_)))))))
  rw [hR.n hV, shl1 _ (by omega)]
  exact hP
theorem c_lastSet (W : WW ad w h) (hC : isC i) (hR : CR w i V) (hV : VOK V) (hP : P (.inl (some (.int (lastV V)))) h) : WP ga L xs (d + 1) 9 [.ref (ad i)] h P := by
  have hn := hV.w.2
  unfold lastV at hP
  refine WP.enter kX0_lastSet (Nat.le_of_ble_eq_true rfl) (fun J hJ => ?_)
  refine hJ 0 _ _ rfl _ _ _ _ (x_aload rfl (w_geti W 0 6 hC.lt hC.sh rfl rfl (x_br (fun b1 => have b1 := k_le0 (hR.w hV) (by omega) b1; hJ 1 _ _ rfl _ _ _ _ (x_sipush (x_goto (hJ 2 _ _ rfl _ _ _ _ (x_iret (nrwI _) ?_))))) (fun b1 => have b1 := k_gt0 (hR.w hV) (by omega) b1; x_aload rfl (w_getr W 0 13 (t := i + 4) hC.lt hC.sh rfl rfl (hC.rf4 _) (x_aload rfl (w_geti W 0 6 hC.lt hC.sh rfl rfl (x_sipush (x_isub (w_iald W (wk V - 1) hC.lt4 hC.sh4 (by rw [hR.w hV]; exact kN_pred b1) (by omega) (by decide) (x_goto (hJ 2 _ _ rfl _ _ _ _ (x_iret (nrwI _) ?_)))))))))))))
  · rw [if_neg (by omega)] at hP
    exact hP
  · rw [if_pos (by omega), ← hR.2.2.1 _ (by omega)] at hP
    exact hP
theorem c_thoughts {s x : Int32} {t : Nat} (W : WW ad w h) (hC : isC i) (hR : CR w i V) (hV : VOK V) (hs : sok (nm V) s) (hx : x = kI (t : Int)) (ht : t ≤ 1000) (hP : P (.inl (some (.int (thoughtsV V s t)))) h) : WP ga L xs (d + 2) 18 [.ref (ad i), .int s, .int x] h P := by
  subst hx
  have hn := hV.n.2
  obtain ⟨q, hq, q1, q2⟩ := hV.q
  have eq : wn w i 1 = kI (q : Int) := hR.1.2.1.trans hq
  refine WP.enter kX0_thoughts (Nat.le_of_ble_eq_true rfl) (fun J hJ => ?_)
  have loop : ∀ m, m ≤ t → ∀ z, J 1 [some (.ref (ad i)), some (.int s), some (.int (kI (t : Int))), some (.int (thoughtsV V s m)), some (.int (kI (m : Int))), z] [] h (0, 0) := up_ind (fun m hm ih z => ?_)
  · exact hJ 0 _ _ rfl _ _ _ _ (x_iload rfl (x_istore rfl (x_sipush (x_istore rfl (x_goto (loop 0 (Nat.zero_le _) _))))))
  have hs9 := hs.thoughts hV m
  have hp := pc_le (thoughtsV V s m)
  have hu := hR.2.2.2.2.1
  refine hJ 1 _ _ rfl _ _ _ _ (x_iload rfl (x_iload rfl (x_br2 (fun b1 => have b1 := ge_y rfl (by omega) b1; hJ 6 _ _ rfl _ _ _ _ (x_iload rfl (x_iret (nrwI _) ?_))) (fun b1 => have b1 := ge_n rfl (by omega) b1; x_iload rfl (x_cs rfl (Nat.le_of_ble_eq_true rfl) (c_bitc hs9 (xk_go (x_istore rfl (x_iload rfl (x_aload rfl (w_geti W 0 1 hC.lt hC.sh rfl rfl (x_br2 (fun b2 => hJ 2 _ _ rfl _ _ _ _ (x_iload rfl (x_sipush (x_iadd (x_aload rfl (w_geti W 0 1 hC.lt hC.sh rfl rfl (x_br2 (fun b3 => hJ 3 _ _ rfl _ _ _ _ (x_sipush (x_goto (hJ 4 _ _ rfl _ _ _ _ (x_istore rfl (x_goto (hJ 5 _ _ rfl _ _ _ _ (x_iinc rfl rfl (x_goto (?_)))))))))) (fun b3 => x_aload rfl (w_geti W 0 7 hC.lt hC.sh rfl rfl (x_iload rfl (x_sipush (x_ixor (x_iand (x_goto (hJ 4 _ _ rfl _ _ _ _ (x_istore rfl (x_goto (hJ 5 _ _ rfl _ _ _ _ (x_iinc rfl rfl (x_goto (?_))))))))))))))))))))) (fun b2 => x_iload rfl (x_aload rfl (w_geti W 0 7 hC.lt hC.sh rfl rfl (x_iand (x_istore rfl (x_goto (hJ 5 _ _ rfl _ _ _ _ (x_iinc rfl rfl (x_goto (?_))))))))))))))))))))))
  · have e : m = t := by omega
    subst e
    exact hP
  · refine J_c (ih (by omega) (some (.int (kI (pc (thoughtsV V s m) : Int))))) ?_
    simp only [sI, kN_succ]
    have b2 : ¬ pc (thoughtsV V s m) = q := fun z => b2 (by rw [eq, z])
    rw [eq, kN_succ] at b3
    have b3 : ¬ pc (thoughtsV V s m) + 1 = q := fun z => b3 (by rw [z])
    have e : thoughtsV V s (m + 1) = kI 0 := hb_ext (fun j _ => by
      show hb (mkS (thinkP V (thoughtsV V s m)) (nm V)) j = _
      rw [hb_mkS (by omega), hb_zero]
      by_cases hj : j < nm V
      · rw [thinkP_eq (by omega) hq q2]
        by_cases e : hb (thoughtsV V s m) j = true <;> simp [e, b2, b3]
      · simp [hj])
    rw [e]
  · refine J_c (ih (by omega) (some (.int (kI (pc (thoughtsV V s m) : Int))))) ?_
    simp only [sI, kN_succ]
    have b2 : ¬ pc (thoughtsV V s m) = q := fun z => b2 (by rw [eq, z])
    have b3 : pc (thoughtsV V s m) + 1 = q := by
      rw [eq, kN_succ] at b3
      exact (kN_inj (by omega) (by omega)).mp (Decidable.not_not.mp b3)
    have e : thoughtsV V s (m + 1) = wn w i 7 &&& (thoughtsV V s m ^^^ kI (-1)) := hb_ext (fun j hj9 => by
      show hb (mkS (thinkP V (thoughtsV V s m)) (nm V)) j = _
      rw [hb_mkS (by omega), hb_and, hu, hb_not hj9]
      by_cases hj : j < nm V
      · rw [thinkP_eq (by omega) hq q2]
        by_cases e : hb (thoughtsV V s m) j = true <;> simp [e, b2, b3, hj]
      · simp [hj])
    rw [e]
  · refine J_c (ih (by omega) (some (.int (kI (pc (thoughtsV V s m) : Int))))) ?_
    simp only [sI, kN_succ]
    have b2 : pc (thoughtsV V s m) = q := by
      rw [eq] at b2
      exact (kN_inj (by omega) (by omega)).mp (Decidable.not_not.mp b2)
    have e : thoughtsV V s (m + 1) = thoughtsV V s m &&& wn w i 7 := hb_ext (fun j hj9 => by
      show hb (mkS (thinkP V (thoughtsV V s m)) (nm V)) j = _
      rw [hb_mkS (by omega), hb_and, hu]
      by_cases hj : j < nm V
      · rw [thinkP_eq (by omega) hq q2]
        by_cases e : hb (thoughtsV V s m) j = true <;> simp [e, b2, hj]
      · rw [hs9.2 j (by omega)]
        simp [hj])
    rw [e]
theorem c_hatsAhead {m : Nat} {s x : Int32} (W : WW ad w h) (hC : isC i) (hR : CR w i V) (hV : VOK V) (hx : x = kI (m : Int)) (hm : m < nm V) (hP : P (.inl (some (.int (hatsV V s m)))) h) : WP ga L xs (d + 1) 19 [.ref (ad i), .int x, .int s] h P := by
  subst hx
  have hn := hV.n.2
  have hu := hR.2.2.2.1
  have e : hatsV V s m = (s ||| wn w i 5) &&& (b1 m - kI 1) := hb_ext (fun j hj => by
    unfold hatsV
    rw [hb_mkS (by omega), hb_and, hb_pred (by omega), hb_or, hu]
    by_cases h1 : j < m
    · simp [h1, show j < nm V by omega]
    · simp [h1])
  rw [e] at hP
  refine WP.enter kX0_hatsAhead (Nat.le_of_ble_eq_true rfl) (fun J hJ => ?_)
  exact hJ 0 _ _ rfl _ _ _ _ (x_iload rfl (x_aload rfl (w_geti W 0 5 hC.lt hC.sh rfl rfl (x_ior (x_sipush (x_iload rfl (x_shl1 (by omega) (x_sipush (x_isub (x_iand (x_iret (nrwI _) hP)))))))))))
theorem c_comesBySeeing {m : Nat} {s x : Int32} (W : WW ad w h) (hC : isC i) (hR : CR w i V) (hV : VOK V) (hx : x = kI (m : Int)) (hm : m < nm V) (hP : P (.inl (some (.int (bI (bySee V m s))))) h) : WP ga L xs (d + 1) 20 [.ref (ad i), .int x, .int s] h P := by
  subst hx
  have hn := hV.n.2
  obtain ⟨f1, f2, f3⟩ := hR.2.1 m hm
  refine WP.enter kX0_comesBySeeing (Nat.le_of_ble_eq_true rfl) (fun J hJ => ?_)
  refine hJ 0 _ _ rfl _ _ _ _ (x_aload rfl (w_getr W 0 10 (t := i + 1) hC.lt hC.sh rfl rfl (hC.rf1 _) (x_iload rfl (w_iald W _ hC.lt1 hC.sh1 rfl (by omega) (by decide) (x_sipush (x_br2 (fun b1 => hJ 2 _ _ rfl _ _ _ _ (x_iload rfl (x_aload rfl (w_getr W 0 11 (t := i + 2) hC.lt hC.sh rfl rfl (hC.rf2 _) (x_iload rfl (w_iald W _ hC.lt2 hC.sh2 rfl (by omega) (by decide) (x_br2 (fun b2 => hJ 3 _ _ rfl _ _ _ _ (x_sipush (x_goto (hJ 4 _ _ rfl _ _ _ _ (x_iret (by first | exact nrwB _ | rfl | decide) ?_))))) (fun b2 => x_sipush (x_goto (hJ 4 _ _ rfl _ _ _ _ (x_iret (by first | exact nrwB _ | rfl | decide) ?_))))))))))) (fun b1 => x_iload rfl (x_aload rfl (w_getr W 0 11 (t := i + 2) hC.lt hC.sh rfl rfl (hC.rf2 _) (x_iload rfl (w_iald W _ hC.lt2 hC.sh2 rfl (by omega) (by decide) (x_br2 (fun b3 => hJ 1 _ _ rfl _ _ _ _ (x_sipush (x_goto (hJ 4 _ _ rfl _ _ _ _ (x_iret (by first | exact nrwB _ | rfl | decide) ?_))))) (fun b3 => x_sipush (x_goto (hJ 4 _ _ rfl _ _ _ _ (x_iret (by first | exact nrwB _ | rfl | decide) ?_))))))))))))))))
  · rw [f1] at b1
    rw [f2] at b2
    have e : bySee V m s = false := by
      unfold bySee
      rw [if_neg b1]
      exact decide_eq_false b2
    rw [e] at hP
    exact hP
  · rw [f1] at b1
    rw [f2] at b2
    have e : bySee V m s = true := by
      unfold bySee
      rw [if_neg b1]
      exact decide_eq_true (Decidable.not_not.mp b2)
    rw [e] at hP
    exact hP
  · rw [f1] at b1
    rw [f2] at b3
    have e : bySee V m s = false := by
      unfold bySee
      rw [if_pos (Decidable.not_not.mp b1)]
      exact decide_eq_false (Int32.not_lt.mpr b3)
    rw [e] at hP
    exact hP
  · rw [f1] at b1
    rw [f2] at b3
    have e : bySee V m s = true := by
      unfold bySee
      rw [if_pos (Decidable.not_not.mp b1)]
      exact decide_eq_true (Int32.not_le.mp b3)
    rw [e] at hP
    exact hP
end C0
end
section
/-! ===== a club: its weeks, the walks ===== -/
/-- quotients and rests of small numbers -/
theorem kN_div {a b : Nat} (ha : a < 2147483648) (hb : b < 2147483648) : kI (a : Int) / kI (b : Int) = kI ((a / b : Nat) : Int) := by
  unfold kI
  rw [← Int32.ofInt_tdiv]
  · congr 1
  · show (-2147483648 : Int) ≤ _
    omega
  · show _ ≤ (2147483647 : Int)
    omega
  · show (-2147483648 : Int) ≤ _
    omega
  · show _ ≤ (2147483647 : Int)
    omega
theorem kN_rem {a b : Nat} (ha : a < 2147483648) (hb : b < 2147483648) : kI (a : Int) - kI (a : Int) / kI (b : Int) * kI (b : Int) = kI ((a % b : Nat) : Int) := by
  rw [kN_div ha hb, kI_mul, kI_sub]
  congr 1
  have h := Nat.div_add_mod a b
  have h2 : b * (a / b) = a / b * b := Nat.mul_comm _ _
  have h3 : ((a / b * b + a % b : Nat) : Int) = (a : Int) := by
    rw [← h2, h]
  push_cast at h3 ⊢
  omega
theorem kN_mul (a b : Nat) : kI (a : Int) * kI (b : Int) = kI ((a * b : Nat) : Int) := by
  rw [kI_mul]
  congr 1
theorem kN_eq0 {a : Nat} (ha : a < 2147483648) : kI (a : Int) = 0 ↔ a = 0 := by
  rw [show (0 : Int32) = kI ((0 : Nat) : Int) from rfl, kN_inj ha (by omega)]
def rhyF (V : VT) (m : Nat) (r : Nat) : Nat := if vR V m = kI 6 then Nat.lcm r (vN V m).toInt.toNat else r
def rhyV (V : VT) : Nat := fo (rhyF V) 1 (nm V)
theorem rhy_dvd {V : VT} (hV : VOK V) : ∀ m, m ≤ nm V → fo (rhyF V) 1 m ∣ 27720 ∧ 1 ≤ fo (rhyF V) 1 m
  | 0, _ => ⟨Nat.one_dvd _, Nat.le_refl _⟩
  | m + 1, h => by
    obtain ⟨h1, h2⟩ := rhy_dvd hV m (by omega)
    obtain ⟨-, hN, -, -, h6, -⟩ := hV.2.1 m (by omega)
    show rhyF V m (fo (rhyF V) 1 m) ∣ 27720 ∧ 1 ≤ rhyF V m (fo (rhyF V) 1 m)
    unfold rhyF
    by_cases e : vR V m = kI 6
    · rw [if_pos e]
      have h7 := h6 e
      obtain ⟨c, hc, c1, c2⟩ := btw_k hN
      have hc9 : (vN V m).toInt = c := by rw [hc]; exact kI_toInt (by omega) (by omega)
      rw [hc9] at h7 ⊢
      have hd : ∀ c : Nat, c < 13 → 1 ≤ c → c ∣ 27720 := by decide
      refine ⟨Nat.lcm_dvd h1 (hd _ (by omega) (by omega)), ?_⟩
      exact Nat.lcm_pos (show 0 < fo (rhyF V) 1 m by omega) (by omega)
    · rw [if_neg e]
      exact ⟨h1, h2⟩
theorem rhy_le {V : VT} (hV : VOK V) {m : Nat} (h : m ≤ nm V) : fo (rhyF V) 1 m ≤ 27720 := Nat.le_of_dvd (by decide) (rhy_dvd hV m h).1
section C0
variable {ga : Nat → Nat} {L : Nat} {xs : Nat → Int32} {d : Nat} {h : ac_H} {P : ac_P} {ad : Nat → Nat} {w : Wst} {i : Nat} {V : VT}
theorem c_weeksOf {s : Int32} (W : WW ad w h) (hC : isC i) (hR : CR w i V) (hV : VOK V) (hP : P (.inl (some (.int (wksV V s)))) h) : WP ga L xs (d + 1) 24 [.ref (ad i), .int s] h P := by
  have hw := hV.w.2
  refine WP.enter kX0_weeksOf (Nat.le_of_ble_eq_true rfl) (fun J hJ => ?_)
  have loop : ∀ m, m ≤ wk V → J 1 [some (.ref (ad i)), some (.int s), some (.int (sm (fun j => bI (decide (vS V j &&& s = s))) m)), some (.int (kI (m : Int)))] [] h (0, 0) := up_ind (fun m hm ih => ?_)
  · exact hJ 0 _ _ rfl _ _ _ _ (x_sipush (x_istore rfl (x_sipush (x_istore rfl (x_goto (loop 0 (Nat.zero_le _)))))))
  refine hJ 1 _ _ rfl _ _ _ _ (x_iload rfl (x_aload rfl (w_geti W 0 6 hC.lt hC.sh rfl rfl (x_br2 (fun b1 => have b1 := ge_y (hR.w hV) (by omega) b1; hJ 4 _ _ rfl _ _ _ _ (x_iload rfl (x_iret (nrwI _) ?_))) (fun b1 => have b1 := ge_n (hR.w hV) (by omega) b1; x_iload rfl (x_aload rfl (w_getr W 0 13 (t := i + 4) hC.lt hC.sh rfl rfl (hC.rf4 _) (x_iload rfl (w_iald W _ hC.lt4 hC.sh4 rfl (by omega) (by decide) (x_iload rfl (x_iand (x_iload rfl (x_br2 (fun b2 => hJ 2 _ _ rfl _ _ _ _ (x_sipush (x_goto (hJ 3 _ _ rfl _ _ _ _ (x_iadd (x_istore rfl (x_iinc rfl rfl (x_goto (?_))))))))) (fun b2 => x_sipush (x_goto (hJ 3 _ _ rfl _ _ _ _ (x_iadd (x_istore rfl (x_iinc rfl rfl (x_goto (?_)))))))))))))))))))))
  · have e : m = wk V := by omega
    subst e
    exact hP
  · rw [hR.2.2.1 m b1] at b2
    refine J_c (ih (by omega)) ?_
    simp only [sI, sm, kN_succ, decide_eq_false b2]
    all_goals rfl
  · rw [hR.2.2.1 m b1] at b2
    refine J_c (ih (by omega)) ?_
    simp only [sI, sm, kN_succ, decide_eq_true (Decidable.not_not.mp b2)]
    all_goals rfl
theorem c_dinnersOf {m0 : Nat} {x : Int32} (W : WW ad w h) (hC : isC i) (hR : CR w i V) (hV : VOK V) (hx : x = kI (m0 : Int)) (hm0 : m0 < nm V) (hP : P (.inl (some (.int (dinV V m0)))) h) : WP ga L xs (d + 3) 25 [.ref (ad i), .int x] h P := by
  subst hx
  have hn := hV.n.2
  have hw := hV.w.2
  refine WP.enter kX0_dinnersOf (Nat.le_of_ble_eq_true rfl) (fun J hJ => ?_)
  have loop : ∀ m, m ≤ wk V → J 1 [some (.ref (ad i)), some (.int (kI (m0 : Int))), some (.int (sm (fun j => bI (hb (vS V j) m0 && meetsV V (vS V j))) m)), some (.int (kI (m : Int)))] [] h (0, 0) := up_ind (fun m hm ih => ?_)
  · exact hJ 0 _ _ rfl _ _ _ _ (x_sipush (x_istore rfl (x_sipush (x_istore rfl (x_goto (loop 0 (Nat.zero_le _)))))))
  have hs : m < wk V → sok (nm V) (wa w (i + 4) m) := fun hm => by rw [hR.2.2.1 m hm]; exact hV.2.2 m hm
  refine hJ 1 _ _ rfl _ _ _ _ (x_iload rfl (x_aload rfl (w_geti W 0 6 hC.lt hC.sh rfl rfl (x_br2 (fun b1 => have b1 := ge_y (hR.w hV) (by omega) b1; hJ 4 _ _ rfl _ _ _ _ (x_iload rfl (x_iret (nrwI _) ?_))) (fun b1 => have b1 := ge_n (hR.w hV) (by omega) b1; x_iload rfl (x_aload rfl (x_aload rfl (w_getr W 0 13 (t := i + 4) hC.lt hC.sh rfl rfl (hC.rf4 _) (x_iload rfl (w_iald W _ hC.lt4 hC.sh4 rfl (by omega) (by decide) (x_iload rfl (x_cv rfl (Nat.le_of_ble_eq_true rfl) (isO_W W hC.lt hC.sh) (c_has rfl (by omega) (xk_go (x_br (fun b2 => have b2 := bI_eq0.mp b2; hJ 2 _ _ rfl _ _ _ _ (x_sipush (x_goto (hJ 3 _ _ rfl _ _ _ _ (x_iadd (x_istore rfl (x_iinc rfl rfl (x_goto (?_))))))))) (fun b2 => have b2 := bI_ne0.mp b2; x_aload rfl (x_aload rfl (w_getr W 0 13 (t := i + 4) hC.lt hC.sh rfl rfl (hC.rf4 _) (x_iload rfl (w_iald W _ hC.lt4 hC.sh4 rfl (by omega) (by decide) (x_cv rfl (Nat.le_of_ble_eq_true rfl) (isO_W W hC.lt hC.sh) (c_meets W hC hR (hs b1) (xk_go (x_br (fun b3 => have b3 := bI_eq0.mp b3; hJ 2 _ _ rfl _ _ _ _ (x_sipush (x_goto (hJ 3 _ _ rfl _ _ _ _ (x_iadd (x_istore rfl (x_iinc rfl rfl (x_goto (?_))))))))) (fun b3 => have b3 := bI_ne0.mp b3; x_sipush (x_goto (hJ 3 _ _ rfl _ _ _ _ (x_iadd (x_istore rfl (x_iinc rfl rfl (x_goto (?_))))))))))))))))))))))))))))))))
  · have e : m = wk V := by omega
    subst e
    exact hP
  · rw [hR.2.2.1 m b1] at b2
    refine J_c (ih (by omega)) ?_
    simp only [sI, sm, kN_succ, b2]
    all_goals rfl
  · rw [hR.2.2.1 m b1] at b2 b3
    refine J_c (ih (by omega)) ?_
    simp only [sI, sm, kN_succ, b2, b3]
    all_goals rfl
  · rw [hR.2.2.1 m b1] at b2 b3
    refine J_c (ih (by omega)) ?_
    simp only [sI, sm, kN_succ, b2, b3]
    all_goals rfl
theorem c_weeksOfJust {x y : Int32} {u : Nat} (W : WW ad w h) (hC : isC i) (hR : CR w i V) (hV : VOK V) (hx : x = kI (u : Int)) (hu : u ≤ wk V) (hP : P (.inl (some (.int (justV V y u)))) h) : WP ga L xs (d + 2) 27 [.ref (ad i), .int y, .int x] h P := by
  subst hx
  have hw := hV.w.2
  refine WP.enter kX0_weeksOfJust (Nat.le_of_ble_eq_true rfl) (fun J hJ => ?_)
  have loop : ∀ m, m ≤ u → J 1 [some (.ref (ad i)), some (.int y), some (.int (kI (u : Int))), some (.int (justV V y m)), some (.int (kI (m : Int)))] [] h (0, 0) := up_ind (fun m hm ih => ?_)
  · exact hJ 0 _ _ rfl _ _ _ _ (x_sipush (x_istore rfl (x_sipush (x_istore rfl (x_goto (loop 0 (Nat.zero_le _)))))))
  have hs : m < wk V → sok (nm V) (wa w (i + 4) m) := fun hm => by rw [hR.2.2.1 m hm]; exact hV.2.2 m hm
  refine hJ 1 _ _ rfl _ _ _ _ (x_iload rfl (x_iload rfl (x_br2 (fun b1 => have b1 := ge_y rfl (by omega) b1; hJ 4 _ _ rfl _ _ _ _ (x_iload rfl (x_iret (nrwI _) ?_))) (fun b1 => have b1 := ge_n rfl (by omega) b1; x_iload rfl (x_aload rfl (w_getr W 0 13 (t := i + 4) hC.lt hC.sh rfl rfl (hC.rf4 _) (x_iload rfl (w_iald W _ hC.lt4 hC.sh4 rfl (by omega) (by decide) (x_cs rfl (Nat.le_of_ble_eq_true rfl) (c_bitc (hs (by omega)) (xk_go (x_iload rfl (x_br2 (fun b2 => hJ 2 _ _ rfl _ _ _ _ (x_sipush (x_goto (hJ 3 _ _ rfl _ _ _ _ (x_iadd (x_istore rfl (x_iinc rfl rfl (x_goto (?_))))))))) (fun b2 => x_sipush (x_goto (hJ 3 _ _ rfl _ _ _ _ (x_iadd (x_istore rfl (x_iinc rfl rfl (x_goto (?_)))))))))))))))))))))
  · have e : m = u := by omega
    subst e
    exact hP
  · rw [hR.2.2.1 m (by omega)] at b2
    refine J_c (ih (by omega)) ?_
    simp only [sI, justV, sm, kN_succ, decide_eq_false b2]
    all_goals rfl
  · rw [hR.2.2.1 m (by omega)] at b2
    refine J_c (ih (by omega)) ?_
    simp only [sI, justV, sm, kN_succ, decide_eq_true (Decidable.not_not.mp b2)]
    all_goals rfl
theorem c_weeksMet (W : WW ad w h) (hC : isC i) (hR : CR w i V) (hV : VOK V) (hP : P (.inl (some (.int (justV V (V 1) (wk V))))) h) : WP ga L xs (d + 3) 26 [.ref (ad i)] h P := by
  rw [← hR.1.2.1] at hP
  refine WP.enter kX0_weeksMet (Nat.le_of_ble_eq_true rfl) (fun J hJ => ?_)
  exact hJ 0 _ _ rfl _ _ _ _ (x_aload rfl (x_aload rfl (w_geti W 0 1 hC.lt hC.sh rfl rfl (x_aload rfl (w_geti W 0 6 hC.lt hC.sh rfl rfl (x_cv rfl (Nat.le_of_ble_eq_true rfl) (isO_W W hC.lt hC.sh) (c_weeksOfJust W hC hR hV (hR.w hV) (Nat.le_refl _) (xk_go (x_iret (nrwI _) hP)))))))))
theorem c_comersUntil {x : Int32} {u : Nat} (W : WW ad w h) (hC : isC i) (hR : CR w i V) (hV : VOK V) (hx : x = kI (u : Int)) (hu : u ≤ wk V) (hP : P (.inl (some (.int (comersV V u)))) h) : WP ga L xs (d + 2) 29 [.ref (ad i), .int x] h P := by
  subst hx
  have hw := hV.w.2
  refine WP.enter kX0_comersUntil (Nat.le_of_ble_eq_true rfl) (fun J hJ => ?_)
  have loop : ∀ m, m ≤ u → J 1 [some (.ref (ad i)), some (.int (kI (u : Int))), some (.int (comersV V m)), some (.int (kI (m : Int)))] [] h (0, 0) := up_ind (fun m hm ih => ?_)
  · exact hJ 0 _ _ rfl _ _ _ _ (x_sipush (x_istore rfl (x_sipush (x_istore rfl (x_goto (loop 0 (Nat.zero_le _)))))))
  have hs : m < wk V → sok (nm V) (wa w (i + 4) m) := fun hm => by rw [hR.2.2.1 m hm]; exact hV.2.2 m hm
  refine hJ 1 _ _ rfl _ _ _ _ (x_iload rfl (x_iload rfl (x_br2 (fun b1 => have b1 := ge_y rfl (by omega) b1; hJ 2 _ _ rfl _ _ _ _ (x_iload rfl (x_iret (nrwI _) ?_))) (fun b1 => have b1 := ge_n rfl (by omega) b1; x_iload rfl (x_aload rfl (w_getr W 0 13 (t := i + 4) hC.lt hC.sh rfl rfl (hC.rf4 _) (x_iload rfl (w_iald W _ hC.lt4 hC.sh4 rfl (by omega) (by decide) (x_cs rfl (Nat.le_of_ble_eq_true rfl) (c_bitc (hs (by omega)) (xk_go (x_iadd (x_istore rfl (x_iinc rfl rfl (x_goto (?_))))))))))))))))
  · have e : m = u := by omega
    subst e
    exact hP
  · refine J_c (ih (by omega)) ?_
    simp only [sI, comersV, sm, kN_succ, hR.2.2.1 m (show m < wk V by omega)]
theorem c_mostOften {x : Int32} {u : Nat} (W : WW ad w h) (hC : isC i) (hR : CR w i V) (hV : VOK V) (hx : x = kI (u : Int)) (hu : u ≤ wk V) (hP : P (.inl (some (.int (mostV V u)))) h) : WP ga L xs (d + 3) 30 [.ref (ad i), .int x] h P := by
  subst hx
  have hn := hV.n.2
  refine WP.enter kX0_mostOftenUntil (Nat.le_of_ble_eq_true rfl) (fun J hJ => ?_)
  have loop : ∀ m, m ≤ nm V + 1 → ∀ z, J 1 [some (.ref (ad i)), some (.int (kI (u : Int))), some (.int (fo (mostF V u) (kI 0, kI 0) m).1), some (.int (fo (mostF V u) (kI 0, kI 0) m).2), some (.int (kI (m : Int))), z] [] h (0, 0) := up_ind (fun m hm ih z => ?_)
  · exact hJ 0 _ _ rfl _ _ _ _ (x_sipush (x_istore rfl (x_sipush (x_istore rfl (x_sipush (x_istore rfl (x_goto (loop 0 (Nat.zero_le _) _))))))))
  refine hJ 1 _ _ rfl _ _ _ _ (x_iload rfl (x_aload rfl (w_geti W 0 4 hC.lt hC.sh rfl rfl (x_br2 (fun b1 => have b1 := gt_y (hR.n hV) (by omega) b1; hJ 3 _ _ rfl _ _ _ _ (x_iload rfl (x_iret (nrwI _) ?_))) (fun b1 => have b1 := gt_n (hR.n hV) (by omega) b1; x_aload rfl (x_iload rfl (x_iload rfl (x_cv rfl (Nat.le_of_ble_eq_true rfl) (isO_W W hC.lt hC.sh) (c_weeksOfJust W hC hR hV rfl hu (xk_go (x_istore rfl (x_iload rfl (x_iload rfl (x_br2 (fun b2 => hJ 2 _ _ rfl _ _ _ _ (x_iinc rfl rfl (x_goto (?_)))) (fun b2 => x_iload rfl (x_istore rfl (x_iload rfl (x_istore rfl (x_goto (hJ 2 _ _ rfl _ _ _ _ (x_iinc rfl rfl (x_goto (?_)))))))))))))))))))))))
  · have e : m = nm V + 1 := by omega
    subst e
    exact hP
  · refine J_c (ih (by omega) (some (.int (justV V (kI (m : Int)) u)))) ?_
    simp only [sI, fo, kN_succ, mostF, if_neg (Int32.not_lt.mpr b2)]
  · refine J_c (ih (by omega) (some (.int (justV V (kI (m : Int)) u)))) ?_
    simp only [sI, fo, kN_succ, mostF, if_pos (Int32.not_le.mp b2)]
theorem c_guessOf {c x : Int32} {u : Nat} (W : WW ad w h) (hC : isC i) (hR : CR w i V) (hV : VOK V) (hc : btw c 0 3) (hx : x = kI (u : Int)) (hu : u ≤ wk V) (hP : P (.inl (some (.int (cookV V c u)))) h) : WP ga L xs (d + 4) 28 [.ref (ad i), .int c, .int x] h P := by
  subst hx
  have hw := hV.w.2
  refine WP.enter kX0_guessOf (Nat.le_of_ble_eq_true rfl) (fun J hJ => ?_)
  obtain ⟨c0, rfl, c1, c2⟩ := btw_k hc
  have hs : 1 ≤ u → sok (nm V) (wa w (i + 4) (u - 1)) := fun h1 => by rw [hR.2.2.1 _ (by omega)]; exact hV.2.2 _ (by omega)
  have hcs : c0 = 0 ∨ c0 = 1 ∨ c0 = 2 ∨ c0 = 3 := by omega
  unfold cookV at hP
  rcases hcs with rfl | rfl | rfl | rfl
  · refine hJ 0 _ _ rfl _ _ _ _ (x_iload rfl (x_br (fun b1 => have b1 := k_gt0n (by omega) b1; hJ 1 _ _ rfl _ _ _ _ (x_iload rfl (x_ts (b := 2) rfl (hJ 2 _ _ rfl _ _ _ _ (x_aload rfl (w_getr W 0 13 (t := i + 4) hC.lt hC.sh rfl rfl (hC.rf4 _) (x_iload rfl (x_sipush (x_isub (w_iald W (u - 1) hC.lt4 hC.sh4 (kN_pred b1) (by omega) (by decide) (x_cs rfl (Nat.le_of_ble_eq_true rfl) (c_bitc (hs b1) (xk_go (x_iret (nrwI _) ?_)))))))))))))) (fun b1 => have b1 := k_le0n (by omega) b1; x_sipush (x_iret (nrwI _) ?_))))
    · rw [if_neg (by omega), if_pos rfl] at hP
      rw [hR.2.2.1 _ (by omega)]
      exact hP
    · rw [if_pos b1] at hP
      exact hP
  · refine hJ 0 _ _ rfl _ _ _ _ (x_iload rfl (x_br (fun b1 => have b1 := k_gt0n (by omega) b1; hJ 1 _ _ rfl _ _ _ _ (x_iload rfl (x_ts (b := 3) rfl (hJ 3 _ _ rfl _ _ _ _ (x_aload rfl (x_iload rfl (x_cv rfl (Nat.le_of_ble_eq_true rfl) (isO_W W hC.lt hC.sh) (c_comersUntil W hC hR hV rfl hu (xk_go (x_iload rfl (x_idiv (fun z => by rw [kN_eq0 (by omega)] at z; omega) (x_iret (nrwI _) ?_)))))))))))) (fun b1 => have b1 := k_le0n (by omega) b1; x_sipush (x_iret (nrwI _) ?_))))
    · rw [if_neg (by omega), if_neg (by decide), if_pos rfl] at hP
      exact hP
    · rw [if_pos b1] at hP
      exact hP
  · refine hJ 0 _ _ rfl _ _ _ _ (x_iload rfl (x_br (fun b1 => have b1 := k_gt0n (by omega) b1; hJ 1 _ _ rfl _ _ _ _ (x_iload rfl (x_ts (b := 4) rfl (hJ 4 _ _ rfl _ _ _ _ (x_aload rfl (x_iload rfl (x_cv rfl (Nat.le_of_ble_eq_true rfl) (isO_W W hC.lt hC.sh) (c_mostOften W hC hR hV rfl hu (xk_go (x_iret (nrwI _) ?_)))))))))) (fun b1 => have b1 := k_le0n (by omega) b1; x_sipush (x_iret (nrwI _) ?_))))
    · rw [if_neg (by omega), if_neg (by decide), if_neg (by decide), if_pos rfl] at hP
      exact hP
    · rw [if_pos b1] at hP
      exact hP
  · refine hJ 0 _ _ rfl _ _ _ _ (x_iload rfl (x_br (fun b1 => have b1 := k_gt0n (by omega) b1; hJ 1 _ _ rfl _ _ _ _ (x_iload rfl (x_ts (b := 5) rfl (hJ 5 _ _ rfl _ _ _ _ (x_aload rfl (w_geti W 0 1 hC.lt hC.sh rfl rfl (x_iret (nrwI _) ?_))))))) (fun b1 => have b1 := k_le0n (by omega) b1; x_sipush (x_iret (nrwI _) ?_))))
    · rw [if_neg (by omega), if_neg (by decide), if_neg (by decide), if_neg (by decide)] at hP
      rw [hR.1.2.1]
      exact hP
    · rw [if_pos b1] at hP
      exact hP
theorem c_hasLearner (W : WW ad w h) (hC : isC i) (hR : CR w i V) (hV : VOK V) (hP : P (.inl (some (.int (bI (learnerV V))))) h) : WP ga L xs (d + 1) 21 [.ref (ad i)] h P := by
  have hn := hV.n.2
  refine WP.enter kX0_hasLearner (Nat.le_of_ble_eq_true rfl) (fun J hJ => ?_)
  have loop : ∀ m, m ≤ nm V → (∀ j, j < m → ¬ vR V j = kI 10) → J 1 [some (.ref (ad i)), some (.int (kI (m : Int)))] [] h (0, 0) := up_ind (fun m hm ih hno => ?_)
  · exact hJ 0 _ _ rfl _ _ _ _ (x_sipush (x_istore rfl (x_goto (loop 0 (Nat.zero_le _) (fun j hj => by omega)))))
  refine hJ 1 _ _ rfl _ _ _ _ (x_iload rfl (x_aload rfl (w_geti W 0 4 hC.lt hC.sh rfl rfl (x_br2 (fun b1 => have b1 := ge_y (hR.n hV) (by omega) b1; hJ 3 _ _ rfl _ _ _ _ (x_sipush (x_iret (by first | exact nrwB _ | rfl | decide) ?_))) (fun b1 => have b1 := ge_n (hR.n hV) (by omega) b1; x_aload rfl (w_getr W 0 10 (t := i + 1) hC.lt hC.sh rfl rfl (hC.rf1 _) (x_iload rfl (w_iald W _ hC.lt1 hC.sh1 rfl (by omega) (by decide) (x_sipush (x_br2 (fun b2 => hJ 2 _ _ rfl _ _ _ _ (x_iinc rfl rfl (x_goto (?_)))) (fun b2 => x_sipush (x_iret (by first | exact nrwB _ | rfl | decide) ?_))))))))))))
  · have e : learnerV V = false := decide_eq_false (by rintro ⟨j, h1, h2⟩; exact hno j (by omega) h2)
    rw [e] at hP
    exact hP
  · rw [(hR.2.1 m b1).1] at b2
    refine J_c (ih (by omega) (fun j hj => ?_)) ?_
    · by_cases e : j = m
      · rw [e]; exact b2
      · exact hno j (by omega)
    · simp only [sI, kN_succ]
  · rw [(hR.2.1 m b1).1] at b2
    have e : learnerV V = true := decide_eq_true ⟨m, b1, Decidable.not_not.mp b2⟩
    rw [e] at hP
    exact hP
theorem c_leastMultiple {x y : Int32} {b r : Nat} (hx : x = kI (r : Int)) (hy : y = kI (b : Int)) (hr : 1 ≤ r ∧ r ≤ 27720) (hb9 : 1 ≤ b ∧ b ≤ 12) (hP : P (.inl (some (.int (kI (Nat.lcm r b : Int))))) h) : WP ga L xs (d + 1) 23 [.int x, .int y] h P := by
  subst hx hy
  have hg : 1 ≤ Nat.gcd r b := Nat.gcd_pos_of_pos_left _ (by omega)
  have hdv : ∀ t, b ∣ r * t ↔ b / Nat.gcd r b ∣ t := by
    intro t
    obtain ⟨k, hk⟩ := Nat.gcd_dvd_right r b
    obtain ⟨k2, hk2⟩ := Nat.gcd_dvd_left r b
    have e1 : b / Nat.gcd r b = k := by
      have : b = Nat.gcd r b * k := hk
      exact Nat.div_eq_of_eq_mul_right hg this
    have e2 : r / Nat.gcd r b = k2 := Nat.div_eq_of_eq_mul_right hg hk2
    have hcop : Nat.Coprime k2 k := by
      rw [← e1, ← e2]
      exact Nat.coprime_div_gcd_div_gcd hg
    rw [e1]
    constructor
    · intro h1
      have h2 : Nat.gcd r b * k ∣ Nat.gcd r b * (k2 * t) := by
        rw [← hk, ← Nat.mul_assoc, ← hk2]
        exact h1
      have h3 := Nat.dvd_of_mul_dvd_mul_left hg h2
      exact hcop.symm.dvd_of_dvd_mul_left h3
    · rintro ⟨c, rfl⟩
      refine ⟨k2 * c, ?_⟩
      calc r * (k * c) = (Nat.gcd r b * k2) * (k * c) := by rw [← hk2]
        _ = (Nat.gcd r b * k) * (k2 * c) := by
          rw [Nat.mul_assoc, Nat.mul_assoc, Nat.mul_left_comm k2 k c]
        _ = b * (k2 * c) := by rw [← hk]
  have hlcm : Nat.lcm r b = r * (b / Nat.gcd r b) := by
    unfold Nat.lcm
    exact Nat.mul_div_assoc _ (Nat.gcd_dvd_right r b)
  have hq1 : 1 ≤ b / Nat.gcd r b := Nat.div_pos (Nat.le_of_dvd (by omega) (Nat.gcd_dvd_right r b)) hg
  have hq2 : b / Nat.gcd r b ≤ b := Nat.div_le_self _ _
  refine WP.enter kX0_leastMultiple (Nat.le_of_ble_eq_true rfl) (fun J hJ => ?_)
  have loop : ∀ m, m ≤ b → (m + 1 ≤ b / Nat.gcd r b) → J 1 [some (.int (kI (r : Int))), some (.int (kI (b : Int))), some (.int (kI ((m + 1 : Nat) : Int)))] [] h (0, 0) := up_ind (fun m hm ih hno => ?_)
  · exact hJ 0 _ _ rfl _ _ _ _ (x_sipush (x_istore rfl (x_goto (loop 0 (Nat.zero_le _) hq1))))
  have hmul : r * (m + 1) ≤ 27720 * 12 := Nat.mul_le_mul hr.2 (by omega)
  refine hJ 1 _ _ rfl _ _ _ _ (x_iload rfl (x_iload rfl (x_br2 (fun b1 => have b1 := gt_y rfl (by omega) b1; hJ 3 _ _ rfl _ _ _ _ (x_iload rfl (x_iret (nrwI _) ?_))) (fun b1 => have b1 := gt_n rfl (by omega) b1; x_iload rfl (x_iload rfl (x_imul (x_iload rfl (x_irem (fun z => by rw [kN_eq0 (by omega)] at z; omega) (x_br (fun b2 => have b2 := cy_ne b2; hJ 2 _ _ rfl _ _ _ _ (x_iinc rfl rfl (x_goto (?_)))) (fun b2 => have b2 := cn_ne b2; x_iload rfl (x_iload rfl (x_imul (x_iret (nrwI _) ?_)))))))))))))
  · omega
  · rw [kN_mul, kN_rem (by omega) (by omega), kN_eq0 (Nat.lt_of_le_of_lt (Nat.mod_le _ _) (by omega))] at b2
    have h1 : ¬ m + 1 = b / Nat.gcd r b := fun z => b2 (Nat.mod_eq_zero_of_dvd ((hdv _).mpr (by rw [z]; exact Nat.dvd_refl _)))
    refine J_c (ih (by omega) (by omega)) ?_
    simp only [sI, kN_succ]
  · rw [kN_mul, kN_rem (by omega) (by omega), kN_eq0 (Nat.lt_of_le_of_lt (Nat.mod_le _ _) (by omega))] at b2
    have h1 := Nat.le_of_dvd (by omega) ((hdv _).mp (Nat.dvd_of_mod_eq_zero b2))
    have h2 : m + 1 = b / Nat.gcd r b := by omega
    rw [kN_mul]
    rw [hlcm, ← h2] at hP
    exact hP
theorem c_round (W : WW ad w h) (hC : isC i) (hR : CR w i V) (hV : VOK V) (hP : P (.inl (some (.int (kI (rhyV V : Int))))) h) : WP ga L xs (d + 2) 22 [.ref (ad i)] h P := by
  have hn := hV.n.2
  refine WP.enter kX0_roundOfWeeks (Nat.le_of_ble_eq_true rfl) (fun J hJ => ?_)
  have loop : ∀ m, m ≤ nm V → J 1 [some (.ref (ad i)), some (.int (kI ((fo (rhyF V) 1 m : Nat) : Int))), some (.int (kI (m : Int)))] [] h (0, 0) := up_ind (fun m hm ih => ?_)
  · exact hJ 0 _ _ rfl _ _ _ _ (x_sipush (x_istore rfl (x_sipush (x_istore rfl (x_goto (loop 0 (Nat.zero_le _)))))))
  have hrl := rhy_le hV hm
  have hr1 := (rhy_dvd hV m hm).2
  have hN : m < nm V → wa w (i + 2) m = kI ((vN V m).toInt.toNat : Int) ∧ (vR V m = kI 6 → 1 ≤ (vN V m).toInt.toNat) ∧ (vN V m).toInt.toNat ≤ 12 := fun hm => by
    obtain ⟨-, hN, -, -, h6, -⟩ := hV.2.1 m hm
    refine ⟨?_, fun e => ?_, ?_⟩
    · rw [(hR.2.1 m hm).2.1, Int.toNat_of_nonneg hN.1, kI_of]
    · have := h6 e
      omega
    · have := hN.2
      omega
  refine hJ 1 _ _ rfl _ _ _ _ (x_iload rfl (x_aload rfl (w_geti W 0 4 hC.lt hC.sh rfl rfl (x_br2 (fun b1 => have b1 := ge_y (hR.n hV) (by omega) b1; hJ 3 _ _ rfl _ _ _ _ (x_iload rfl (x_iret (nrwI _) ?_))) (fun b1 => have b1 := ge_n (hR.n hV) (by omega) b1; x_aload rfl (w_getr W 0 10 (t := i + 1) hC.lt hC.sh rfl rfl (hC.rf1 _) (x_iload rfl (w_iald W _ hC.lt1 hC.sh1 rfl (by omega) (by decide) (x_sipush (x_br2 (fun b2 => hJ 2 _ _ rfl _ _ _ _ (x_iinc rfl rfl (x_goto (?_)))) (fun b2 => x_iload rfl (x_aload rfl (w_getr W 0 11 (t := i + 2) hC.lt hC.sh rfl rfl (hC.rf2 _) (x_iload rfl (w_iald W _ hC.lt2 hC.sh2 rfl (by omega) (by decide) (x_cs rfl (Nat.le_of_ble_eq_true rfl) (c_leastMultiple rfl (hN b1).1 ⟨hr1, hrl⟩ ⟨?_, (hN b1).2.2⟩ (xk_go (x_istore rfl (x_goto (hJ 2 _ _ rfl _ _ _ _ (x_iinc rfl rfl (x_goto (?_))))))))))))))))))))))))
  · have e : m = nm V := by omega
    subst e
    exact hP
  · rw [(hR.2.1 m b1).1] at b2
    refine J_c (ih (by omega)) ?_
    simp only [sI, kN_succ, fo, rhyF, if_neg b2]
  · rw [(hR.2.1 m b1).1] at b2
    exact (hN b1).2.1 (Decidable.not_not.mp b2)
  · rw [(hR.2.1 m b1).1] at b2
    refine J_c (ih (by omega)) ?_
    simp only [sI, kN_succ, fo, rhyF, if_pos (Decidable.not_not.mp b2)]
end C0
end
section
/-! ===== what is kept; weeks as they go by ===== -/
def kp (l : List Nat) (w w' : Wst) : Prop := ∀ i, i ∉ l → wn w' i = wn w i ∧ wr w' i = wr w i ∧ wa w' i = wa w i ∧ wl w' i = wl w i
theorem kp_refl {l : List Nat} {w : Wst} : kp l w w := fun _ _ => ⟨rfl, rfl, rfl, rfl⟩
theorem kp.trans {l : List Nat} {w w' w'' : Wst} (h : kp l w w') (g : kp l w' w'') : kp l w w'' := fun i hi => ⟨(g i hi).1.trans (h i hi).1, (g i hi).2.1.trans (h i hi).2.1, (g i hi).2.2.1.trans (h i hi).2.2.1, (g i hi).2.2.2.trans (h i hi).2.2.2⟩
theorem kp.mono {l l' : List Nat} {w w' : Wst} (h : kp l w w') (hl : ∀ a ∈ l, a ∈ l') : kp l' w w' := fun i hi => h i (fun z => hi (hl i z))
theorem kp_sn {l : List Nat} {w : Wst} {i j : Nat} {x : Int32} (hi : i ∈ l) : kp l w (sn w i j x) := fun a ha => ⟨by
  funext b
  rw [wn_sn]
  exact if_neg (fun (z : a = i ∧ b = j) => ha (z.1 ▸ hi)), rfl, rfl, rfl⟩
theorem kp_sr {l : List Nat} {w : Wst} {i j x : Nat} (hi : i ∈ l) : kp l w (sr w i j x) := fun a ha => ⟨rfl, by
  funext b
  rw [wr_sr]
  exact if_neg (fun (z : a = i ∧ b = j) => ha (z.1 ▸ hi)), rfl, rfl⟩
theorem kp_sa {l : List Nat} {w : Wst} {i : Nat} {f : Nat → Int32} (hi : i ∈ l) : kp l w (sa w i f) := fun a ha => ⟨rfl, rfl, by
  rw [wa_sa]
  exact if_neg (fun (z : a = i) => ha (z ▸ hi)), rfl⟩
theorem kp_sv {l : List Nat} {w : Wst} {i : Nat} {f : Nat → Int64} (hi : i ∈ l) : kp l w (sv w i f) := fun a ha => ⟨rfl, rfl, rfl, by
  rw [wl_sv]
  exact if_neg (fun (z : a = i) => ha (z ▸ hi))⟩
theorem CR.kp {l : List Nat} {w w' : Wst} {i : Nat} {V : VT} (h : CR w i V) (k : kp l w w') (hl : ∀ j, j < 5 → i + j ∉ l) : CR w' i V := by
  obtain ⟨h1, h2, h3, h4⟩ := h
  have k0 := k i (hl 0 (by omega))
  have k1 := k (i + 1) (hl 1 (by omega))
  have k2 := k (i + 2) (hl 2 (by omega))
  have k3 := k (i + 3) (hl 3 (by omega))
  have k4 := k (i + 4) (hl 4 (by omega))
  unfold CR
  rw [k0.1, k1.2.2.1, k2.2.2.1, k3.2.2.1, k4.2.2.1]
  exact ⟨h1, h2, h3, h4⟩
abbrev kpp := kp
theorem CR.far {l : List Nat} {w w' : Wst} {i : Nat} {V : VT} (h : CR w i V) (k : kpp l w w') (hC : isC i) (hl : ∀ a ∈ l, 40 ≤ a) : CR w' i V := h.kp k (fun j hj z => by
  have := hl _ z
  unfold isC at hC
  omega)
theorem sn_sn (w : Wst) (i j : Nat) (x y : Int32) : sn (sn w i j x) i j y = sn w i j y := by
  unfold sn
  refine Prod.ext ?_ rfl
  funext a b
  show (if a = i ∧ b = j then y else if a = i ∧ b = j then x else wn w a b) = if a = i ∧ b = j then y else wn w a b
  split <;> rfl
theorem sn_self (w : Wst) (i j : Nat) : sn w i j (wn w i j) = w := by
  unfold sn
  refine Prod.ext ?_ rfl
  funext a b
  show (if a = i ∧ b = j then wn w i j else wn w a b) = wn w a b
  split
  · rename_i h
    rw [h.1, h.2]
  · rfl
/-- draws -/
def dnx (x : Int32) : Int32 := kI 1103515245 * x + kI 12345
def dvl (x : Int32) : Int32 := (x.toUInt32 >>> ((kI 16).toUInt32 &&& Int32.toUInt32 31)).toInt32 - (x.toUInt32 >>> ((kI 16).toUInt32 &&& Int32.toUInt32 31)).toInt32 / kI 100 * kI 100
def seenG (V : VT) (fog : Bool) (come x : Int32) : Nat → Nat × Int32
  | 0 => (0, x)
  | k + 1 => if (hb come k || decide (vU V k = 1)) = true then (if fog = true then ((if dvl (dnx (seenG V fog come x k).2) < V 3 then (seenG V fog come x k).1 else (seenG V fog come x k).1 + 1), dnx (seenG V fog come x k).2) else ((seenG V fog come x k).1 + 1, (seenG V fog come x k).2)) else seenG V fog come x k
def seenH (V : VT) (hats x : Int32) : Nat → Nat × Int32
  | 0 => (0, x)
  | k + 1 => if hb hats k = true then ((if dvl (dnx (seenH V hats x k).2) < V 3 then (seenH V hats x k).1 else (seenH V hats x k).1 + 1), dnx (seenH V hats x k).2) else seenH V hats x k
theorem seenH_eq {V : VT} {come x : Int32} {m : Nat} (hm : m ≤ 12) : ∀ k, k ≤ m → seenH V (hatsV V come m) x k = seenG V true come x k
  | 0, _ => rfl
  | k + 1, h => by
    unfold seenH seenG
    rw [seenH_eq hm k (by omega)]
    have e : hb (hatsV V come m) k = (hb come k || decide (vU V k = 1)) := by
      unfold hatsV
      rw [hb_mkS (by omega)]
      simp [show k < m by omega]
    rw [e]
    simp only [if_true]
theorem seenH_eq2 {V : VT} {come x : Int32} {m : Nat} (hm : m ≤ 12) : ∀ k, m ≤ k → seenH V (hatsV V come m) x k = seenG V true come x m
  | 0, h => by
    rw [show m = 0 by omega]
    rfl
  | k + 1, h => by
    by_cases e : m = k + 1
    · rw [← e]
      exact seenH_eq hm m (Nat.le_refl _)
    · unfold seenH
      have e : hb (hatsV V come m) k = false := by
        unfold hatsV
        rw [hb_mkS (by omega)]
        simp [show ¬ k < m by omega]
      rw [e, seenH_eq2 hm k (by omega)]
      rfl
theorem seen0_eq {V : VT} {come x : Int32} : ∀ m, seenG V false come x m = (cnt (fun j => hb come j || decide (vU V j = 1)) m, x)
  | 0 => rfl
  | m + 1 => by
    unfold seenG cnt
    rw [seen0_eq m]
    split <;> rfl
theorem pc_hats {V : VT} {come : Int32} {m : Nat} (hm : m ≤ 12) : pc (hatsV V come m) = cnt (fun j => hb come j || decide (vU V j = 1)) m := by
  have e1 : cnt (hb (hatsV V come m)) m = cnt (fun j => hb come j || decide (vU V j = 1)) m := cnt_congr (fun j hj => by
    unfold hatsV
    rw [hb_mkS (by omega)]
    simp [hj])
  rw [← e1]
  have : ∀ k, m ≤ k → cnt (hb (hatsV V come m)) k = cnt (hb (hatsV V come m)) m := by
    intro k
    induction k with
    | zero => intro h; rw [show m = 0 by omega]
    | succ k ih =>
      intro h
      by_cases e : m = k + 1
      · rw [e]
      · show cnt _ k + (if hb (hatsV V come m) k = true then 1 else 0) = _
        have e2 : hb (hatsV V come m) k = false := by
          unfold hatsV
          rw [hb_mkS (by omega)]
          simp [show ¬ k < m by omega]
        rw [e2, ih (by omega)]
        rfl
  exact this 12 hm
theorem seenG_le {V : VT} {fog : Bool} {come x : Int32} : ∀ m, (seenG V fog come x m).1 ≤ m
  | 0 => Nat.le_refl _
  | m + 1 => by
    have := seenG_le (V := V) (fog := fog) (come := come) (x := x) m
    unfold seenG
    split
    · split
      · split <;> simp <;> omega
      · simp; omega
    · omega
/-- weeks gone by: who came, and how many -/
abbrev PT : Type := (Nat → Int32) × Nat
def lastP (p : PT) : Int32 := if 0 < p.2 then p.1 (p.2 - 1) else kI 0
def lrnV (V : VT) (p : PT) (m : Nat) : Int32 := sm (fun j => payV V (p.1 j ||| b1 m) m) p.2
def nN (V : VT) (m : Nat) : Nat := (vN V m).toInt.toNat
def comesG (V : VT) (p : PT) (fog : Bool) (m : Nat) (c : Int32 × Int32) : Bool × Int32 :=
  if vR V m = kI 0 then (true, c.2) else if vR V m = kI 2 then (hb (lastP p) m, c.2) else if vR V m = kI 3 then (!hb (lastP p) m, c.2) else if vR V m = kI 4 then (decide (kI (pc (lastP p) : Int) < vN V m), c.2) else if vR V m = kI 5 then (decide (vN V m < kI (pc (lastP p) : Int)), c.2) else if vR V m = kI 6 then (decide (p.2 % nN V m = 0), c.2) else if vR V m = kI 7 then (bySee V m (kI ((seenG V fog c.1 c.2 m).1 : Int)), (seenG V fog c.1 c.2 m).2) else if vR V m = kI 8 then (bySee V m (kI ((seenG V fog c.1 c.2 m).1 : Int)), (seenG V fog c.1 c.2 m).2) else if vR V m = kI 9 then (hb (thoughtsV V (lastP p) (nN V m)) m, c.2) else if vR V m = kI 10 then (decide (0 < lrnV V p m), c.2) else (false, c.2)
def goesF (V : VT) (p : PT) (fog : Bool) (m : Nat) (c : Int32 × Int32) : Int32 × Int32 := (c.1 ||| (if (comesG V p fog m c).1 = true then b1 m else kI 0), (comesG V p fog m c).2)
def goesG (V : VT) (p : PT) (fog : Bool) (x : Int32) : Int32 × Int32 := fo (goesF V p fog) (kI 0, x) (nm V)
def nextP (V : VT) (p : PT) : Int32 := (goesG V p false (kI 0)).1
def goP (V : VT) (p : PT) : PT := (upd p.1 p.2 (nextP V p), p.2 + 1)
def runP (V : VT) (p : PT) : Nat → PT
  | 0 => p
  | k + 1 => goP V (runP V p k)
def startP (V : VT) : PT := (vS V, wk V)
theorem comesG_nofog {V : VT} {p : PT} {m : Nat} {c x y : Int32} : (comesG V p false m (c, x)).1 = (comesG V p false m (c, y)).1 ∧ (comesG V p false m (c, x)).2 = x := by
  unfold comesG
  simp only [seen0_eq]
  constructor
  · repeat' split
    all_goals rfl
  · repeat' split
    all_goals rfl
theorem goesF_nofog {V : VT} {p : PT} {m : Nat} {c x y : Int32} : (goesF V p false m (c, x)).1 = (goesF V p false m (c, y)).1 ∧ (goesF V p false m (c, x)).2 = x := by
  obtain ⟨h1, h2⟩ := comesG_nofog (V := V) (p := p) (m := m) (c := c) (x := x) (y := y)
  refine ⟨?_, h2⟩
  show c ||| (if (comesG V p false m (c, x)).1 = true then b1 m else kI 0) = c ||| (if (comesG V p false m (c, y)).1 = true then b1 m else kI 0)
  rw [h1]
theorem fo_nofog {V : VT} {p : PT} {x y : Int32} : ∀ n, (fo (goesF V p false) (kI 0, x) n).1 = (fo (goesF V p false) (kI 0, y) n).1 ∧ (fo (goesF V p false) (kI 0, x) n).2 = x
  | 0 => ⟨rfl, rfl⟩
  | n + 1 => by
    obtain ⟨h1, h2⟩ := fo_nofog (V := V) (p := p) (x := x) (y := y) n
    obtain ⟨-, h3⟩ := fo_nofog (V := V) (p := p) (x := y) (y := y) n
    have e1 : fo (goesF V p false) (kI 0, x) n = ((fo (goesF V p false) (kI 0, y) n).1, x) := Prod.ext h1 h2
    have e2 : fo (goesF V p false) (kI 0, y) n = ((fo (goesF V p false) (kI 0, y) n).1, y) := Prod.ext rfl h3
    show (goesF V p false n (fo (goesF V p false) (kI 0, x) n)).1 = (goesF V p false n (fo (goesF V p false) (kI 0, y) n)).1 ∧ (goesF V p false n (fo (goesF V p false) (kI 0, x) n)).2 = x
    rw [e1]
    constructor
    · rw [e2]
      exact goesF_nofog.1
    · exact (goesF_nofog (y := y)).2
theorem goes_nofog {V : VT} {p : PT} {x : Int32} : goesG V p false x = (nextP V p, x) := Prod.ext (fo_nofog _).1 (fo_nofog (y := x) _).2
theorem sok_goesF {V : VT} {p : PT} {fog : Bool} {c : Int32 × Int32} {m : Nat} (hn : nm V ≤ 12) (hm : m < nm V) (h : sok (nm V) c.1) : sok (nm V) (goesF V p fog m c).1 := by
  unfold goesF
  refine h.or ?_
  split
  · exact sok.b1 hn hm
  · exact sok.zero hn
theorem sok_goes {V : VT} {p : PT} {fog : Bool} {x : Int32} (hn : nm V ≤ 12) : ∀ k, k ≤ nm V → sok (nm V) (fo (goesF V p fog) (kI 0, x) k).1
  | 0, _ => sok.zero hn
  | k + 1, h => sok_goesF hn (by omega) (sok_goes hn k (by omega))
theorem sok_next {V : VT} {p : PT} (hn : nm V ≤ 12) : sok (nm V) (nextP V p) := sok_goes hn _ (Nat.le_refl _)
def POK (V : VT) (p : PT) : Prop := p.2 ≤ 470 ∧ ∀ j, j < p.2 → sok (nm V) (p.1 j)
theorem POK.last {V : VT} {p : PT} (h : POK V p) (hn : nm V ≤ 12) : sok (nm V) (lastP p) := by
  unfold lastP
  split
  · exact h.2 _ (by omega)
  · exact sok.zero hn
theorem POK.start {V : VT} (hV : VOK V) : POK V (startP V) := ⟨by have := hV.w.2; show wk V ≤ 470; omega, hV.2.2⟩
theorem POK.go {V : VT} {p : PT} (h : POK V p) (hn : nm V ≤ 12) (hp : p.2 < 470) : POK V (goP V p) := by
  refine ⟨by show p.2 + 1 ≤ 470; omega, fun j hj => ?_⟩
  show sok _ (upd p.1 p.2 (nextP V p) j)
  unfold upd
  split
  · exact sok_next hn
  · exact h.2 j (by have : j < p.2 + 1 := hj; omega)
theorem runP_len {V : VT} {p : PT} : ∀ k, (runP V p k).2 = p.2 + k
  | 0 => rfl
  | k + 1 => by
    show (runP V p k).2 + 1 = _
    rw [runP_len k]
    omega
theorem POK.run {V : VT} {p : PT} (h : POK V p) (hn : nm V ≤ 12) : ∀ k, p.2 + k ≤ 470 → POK V (runP V p k)
  | 0, _ => h
  | k + 1, hk => (h.run hn k (by omega)).go hn (by rw [runP_len]; omega)
theorem last_go {V : VT} {p : PT} : lastP (goP V p) = nextP V p := by
  show (if 0 < p.2 + 1 then upd p.1 p.2 (nextP V p) (p.2 + 1 - 1) else kI 0) = _
  rw [if_pos (by omega), Nat.add_sub_cancel]
  exact if_pos rfl
theorem lrn_go {V : VT} {p : PT} {m : Nat} : lrnV V (goP V p) m = lrnV V p m + payV V (nextP V p ||| b1 m) m := by
  unfold lrnV goP
  show sm _ p.2 + payV V (upd p.1 p.2 (nextP V p) p.2 ||| b1 m) m = _
  have e : upd p.1 p.2 (nextP V p) p.2 = nextP V p := if_pos rfl
  rw [e]
  congr 1
  exact sm_congr (fun j hj => by
    have e : upd p.1 p.2 (nextP V p) j = p.1 j := if_neg (by omega)
    show payV V (upd p.1 p.2 (nextP V p) j ||| b1 m) m = _
    rw [e])
/-- the course's cells -/
def CoR (w : Wst) (i : Nat) (V : VT) (p : PT) (fog : Bool) : Prop := wr w 40 0 = i ∧ wn w 40 1 = kI (p.2 : Int) ∧ wn w 40 2 = lastP p ∧ wn w 40 3 = bI fog ∧ ∀ m, m < nm V → vR V m = kI 10 → wa w 41 m = lrnV V p m
theorem CoR.draw {w : Wst} {i : Nat} {V : VT} {p : PT} {fog : Bool} {x : Int32} (h : CoR w i V p fog) : CoR (sn w 40 4 x) i V p fog := h
theorem CR.draw {w : Wst} {i : Nat} {V : VT} {x : Int32} (h : CR w i V) (hC : isC i) : CR (sn w 40 4 x) i V := h.far (l := [40]) (kp_sn (by simp)) hC (by simp)
end
section
/-! ===== the course: who comes ===== -/
def seenHG (V : VT) (fog : Bool) (hats x : Int32) : Nat × Int32 := if fog = true then seenH V hats x (nm V) else (pc hats, x)
theorem seenHG_eq {V : VT} {fog : Bool} {come x : Int32} {m : Nat} (hm : m ≤ nm V) (hn : nm V ≤ 12) : seenHG V fog (hatsV V come m) x = seenG V fog come x m := by
  unfold seenHG
  cases fog
  · rw [if_neg (by decide), seen0_eq, pc_hats (by omega)]
  · rw [if_pos rfl]
    exact seenH_eq2 (by omega) _ hm
section C1
variable {p : PT} {fog : Bool}
variable {ga : Nat → Nat} {L : Nat} {xs : Nat → Int32} {d : Nat} {h : ac_H} {P : ac_P} {ad : Nat → Nat} {w : Wst} {i : Nat} {V : VT}
theorem c_hatsSeen {hats : Int32} (W : WW ad w h) (hC : isC i) (hR : CR w i V) (hV : VOK V) (hr : wr w 40 0 = i) (hf : wn w 40 3 = bI fog) (hs : sok (nm V) hats) (kk : ∀ h', WW ad (sn w 40 4 (seenHG V fog hats (wn w 40 4)).2) h' → P (.inl (some (.int (kI ((seenHG V fog hats (wn w 40 4)).1 : Int))))) h') : WP ga L xs (d + 2) 38 [.ref (ad 40), .int hats] h P := by
  have hn := hV.n.2
  refine WP.enter kX1_hatsSeen (Nat.le_of_ble_eq_true rfl) (fun J hJ => ?_)
  unfold seenHG at kk
  cases fog
  · rw [if_neg (by decide)] at kk
    refine hJ 0 _ _ rfl _ _ _ _ (x_aload rfl (w_geti W 1 3 (by decide) shp_40 rfl rfl (x_br (fun b1 => absurd (show wn w 40 3 = 0 from by rw [hf]; rfl) b1) (fun b1 => have b1 := cn_ne b1; x_iload rfl (x_cs rfl (Nat.le_of_ble_eq_true rfl) (c_bitc hs (xk_go (x_iret (nrwI _) ?_))))))))
    exact kk h (by rw [sn_self]; exact W)
  · rw [if_pos rfl] at kk
    have hle : ∀ m, (seenH V hats (wn w 40 4) m).1 ≤ m := by
      intro m
      induction m with
      | zero => exact Nat.le_refl _
      | succ m ih =>
        unfold seenH
        split
        · split <;> simp <;> omega
        · omega
    have loop : ∀ m, m ≤ nm V → ∀ h', WW ad (sn w 40 4 (seenH V hats (wn w 40 4) m).2) h' → J 2 [some (.ref (ad 40)), some (.int hats), some (.int (kI ((seenH V hats (wn w 40 4) m).1 : Int))), some (.int (kI (m : Int)))] [] h' (0, 0) := up_ind (fun m hm ih h0 W0 => ?_)
    · refine hJ 0 _ _ rfl _ _ _ _ (x_aload rfl (w_geti W 1 3 (by decide) shp_40 rfl rfl (x_br (fun b1 => have b1 := cy_ne b1; hJ 1 _ _ rfl _ _ _ _ (x_sipush (x_istore rfl (x_sipush (x_istore rfl (x_goto (?_))))))) (fun b1 => absurd (cn_ne b1) (by rw [hf]; decide)))))
      exact loop 0 (Nat.zero_le _) h (by show WW ad (sn w 40 4 (wn w 40 4)) h; rw [sn_self]; exact W)
    have hR0 : CR (sn w 40 4 (seenH V hats (wn w 40 4) m).2) i V := hR.draw hC
    have hl := hle m
    refine hJ 2 _ _ rfl _ _ _ _ (x_iload rfl (x_aload rfl (w_getr W0 1 0 (t := i) (by decide) shp_40 rfl rfl hr (w_geti W0 0 4 hC.lt hC.sh rfl rfl (x_br2 (fun b1 => have b1 := ge_y (hR0.n hV) (by omega) b1; hJ 6 _ _ rfl _ _ _ _ (x_iload rfl (x_iret (nrwI _) ?_))) (fun b1 => have b1 := ge_n (hR0.n hV) (by omega) b1; x_aload rfl (w_getr W0 1 0 (t := i) (by decide) shp_40 rfl rfl hr (x_iload rfl (x_iload rfl (x_cv rfl (Nat.le_of_ble_eq_true rfl) (isO_W W0 hC.lt hC.sh) (c_has rfl (by omega) (xk_go (x_br (fun b2 => have b2 := bI_eq0.mp b2; hJ 5 _ _ rfl _ _ _ _ (x_iinc rfl rfl (x_goto (?_)))) (fun b2 => have b2 := bI_ne0.mp b2; x_aload rfl (x_sipush (x_aload rfl (w_geti W0 1 4 (by decide) shp_40 rfl rfl (x_imul (x_sipush (x_iadd (w_puti W0 1 4 (by decide) shp_40 rfl rfl (okI rfl) (fun h1 W1 => x_iload rfl (x_aload rfl (w_geti W1 1 4 (by decide) shp_40 rfl rfl (x_sipush (x_iushr (x_sipush (x_irem (by decide) (x_aload rfl (w_getr W1 1 0 (t := i) (by decide) shp_40 rfl rfl hr (w_geti W1 0 3 hC.lt hC.sh rfl rfl (x_br2 (fun b3 => have b3 := cy_ge b3; hJ 3 _ _ rfl _ _ _ _ (x_sipush (x_goto (hJ 4 _ _ rfl _ _ _ _ (x_iadd (x_istore rfl (x_goto (hJ 5 _ _ rfl _ _ _ _ (x_iinc rfl rfl (x_goto (?_))))))))))) (fun b3 => have b3 := cn_ge b3; x_sipush (x_goto (hJ 4 _ _ rfl _ _ _ _ (x_iadd (x_istore rfl (x_goto (hJ 5 _ _ rfl _ _ _ _ (x_iinc rfl rfl (x_goto (?_))))))))))))))))))))))))))))))))))))))))))
    · have e : m = nm V := by omega
      subst e
      exact kk h0 W0
    · have e : seenH V hats (wn w 40 4) (m + 1) = seenH V hats (wn w 40 4) m := by
        show (if hb hats m = true then _ else seenH V hats (wn w 40 4) m) = _
        rw [b2]
        rfl
      refine J_c (ih (by omega) h0 (by rw [e]; exact W0)) ?_
      rw [e]
      simp only [sI, kN_succ]
    · rw [(hR0.draw hC).1.2.2.2.1] at b3
      simp only [wn_sn, and_self, if_true] at b3 W1
      rw [sn_sn] at W1
      have e : seenH V hats (wn w 40 4) (m + 1) = ((seenH V hats (wn w 40 4) m).1 + 1, dnx (seenH V hats (wn w 40 4) m).2) := by
        show (if hb hats m = true then ((if dvl (dnx (seenH V hats (wn w 40 4) m).2) < V 3 then (seenH V hats (wn w 40 4) m).1 else (seenH V hats (wn w 40 4) m).1 + 1), dnx (seenH V hats (wn w 40 4) m).2) else _) = _
        have b3 : V 3 ≤ dvl (dnx (seenH V hats (wn w 40 4) m).2) := b3
        rw [b2, if_pos rfl, if_neg (Int32.not_lt.mpr b3)]
      refine J_c (ih (by omega) h1 (by rw [e]; exact W1)) ?_
      rw [e]
      simp only [sI, kN_succ]
    · rw [(hR0.draw hC).1.2.2.2.1] at b3
      simp only [wn_sn, and_self, if_true] at b3 W1
      rw [sn_sn] at W1
      have e : seenH V hats (wn w 40 4) (m + 1) = ((seenH V hats (wn w 40 4) m).1, dnx (seenH V hats (wn w 40 4) m).2) := by
        show (if hb hats m = true then ((if dvl (dnx (seenH V hats (wn w 40 4) m).2) < V 3 then (seenH V hats (wn w 40 4) m).1 else (seenH V hats (wn w 40 4) m).1 + 1), dnx (seenH V hats (wn w 40 4) m).2) else _) = _
        have b3 : dvl (dnx (seenH V hats (wn w 40 4) m).2) < V 3 := b3
        rw [b2, if_pos rfl, if_pos b3]
      refine J_c (ih (by omega) h1 (by rw [e]; exact W1)) ?_
      rw [e]
      simp only [sI, kN_succ, kI_zero, Int32.add_zero]
theorem c_comes {come x : Int32} {m : Nat} (W : WW ad w h) (hC : isC i) (hR : CR w i V) (hV : VOK V) (hco : CoR w i V p fog) (hp : POK V p) (hx : x = kI (m : Int)) (hm : m < nm V) (hs : sok (nm V) come) (kk : ∀ h', WW ad (sn w 40 4 (comesG V p fog m (come, wn w 40 4)).2) h' → P (.inl (some (.int (bI (comesG V p fog m (come, wn w 40 4)).1)))) h') : WP ga L xs (d + 3) 37 [.ref (ad 40), .int x, .int come] h P := by
  subst hx
  have hn := hV.n.2
  have hr := hco.1
  have hlast := hp.last hn
  obtain ⟨hR1, hN, -, -, h6, h9⟩ := hV.2.1 m hm
  obtain ⟨f1, f2, -⟩ := hR.2.1 m hm
  have hp2 := hp.1
  obtain ⟨c, hc, c1, c2⟩ := btw_k hR1
  have hnum : vN V m = kI (nN V m : Int) ∧ nN V m ≤ 12 := by
    refine ⟨?_, ?_⟩
    · unfold nN
      rw [Int.toNat_of_nonneg hN.1, kI_of]
    · unfold nN
      have := hN.2
      omega
  have hw2 : wn w 40 2 = lastP p := hco.2.2.1
  have hs2 : sok (nm V) (wn w 40 2) := by rw [hw2]; exact hlast
  have hW0 : WW ad (sn w 40 4 (wn w 40 4)) h := by rw [sn_self]; exact W
  refine WP.enter kX1_comes (Nat.le_of_ble_eq_true rfl) (fun J hJ => ?_)
  have hcs : c = 0 ∨ c = 1 ∨ c = 2 ∨ c = 3 ∨ c = 4 ∨ c = 5 ∨ c = 6 ∨ c = 7 ∨ c = 8 ∨ c = 9 ∨ c = 10 := by omega
  rcases hcs with rfl | rfl | rfl | rfl | rfl | rfl | rfl | rfl | rfl | rfl | rfl
  · refine hJ 0 _ _ rfl _ _ _ _ (x_aload rfl (w_getr W 1 0 (t := i) (by decide) shp_40 rfl rfl hr (w_getr W 0 11 (t := i + 2) hC.lt hC.sh rfl rfl (hC.rf2 _) (x_iload rfl (w_iald W _ hC.lt2 hC.sh2 rfl (by omega) (by decide) (x_istore rfl (x_aload rfl (w_getr W 1 0 (t := i) (by decide) shp_40 rfl rfl hr (w_getr W 0 10 (t := i + 1) hC.lt hC.sh rfl rfl (hC.rf1 _) (x_iload rfl (w_iald W _ hC.lt1 hC.sh1 rfl (by omega) (by decide) (x_ts (b := 1) (by rw [f1, hc]; rfl) (hJ 1 _ _ rfl _ _ _ _ (x_sipush (x_iret (by first | exact nrwB _ | rfl | decide) ?_)))))))))))))))
    have e : comesG V p fog m (come, wn w 40 4) = (true, wn w 40 4) := by unfold comesG; simp (decide := true) only [hc, if_true, if_false]
    rw [e] at kk
    have kk := kk h hW0
    exact kk
  · refine hJ 0 _ _ rfl _ _ _ _ (x_aload rfl (w_getr W 1 0 (t := i) (by decide) shp_40 rfl rfl hr (w_getr W 0 11 (t := i + 2) hC.lt hC.sh rfl rfl (hC.rf2 _) (x_iload rfl (w_iald W _ hC.lt2 hC.sh2 rfl (by omega) (by decide) (x_istore rfl (x_aload rfl (w_getr W 1 0 (t := i) (by decide) shp_40 rfl rfl hr (w_getr W 0 10 (t := i + 1) hC.lt hC.sh rfl rfl (hC.rf1 _) (x_iload rfl (w_iald W _ hC.lt1 hC.sh1 rfl (by omega) (by decide) (x_ts (b := 20) (by rw [f1, hc]; rfl) (hJ 20 _ _ rfl _ _ _ _ (x_sipush (x_iret (by first | exact nrwB _ | rfl | decide) ?_)))))))))))))))
    have e : comesG V p fog m (come, wn w 40 4) = (false, wn w 40 4) := by unfold comesG; simp (decide := true) only [hc, if_true, if_false]
    rw [e] at kk
    have kk := kk h hW0
    exact kk
  · refine hJ 0 _ _ rfl _ _ _ _ (x_aload rfl (w_getr W 1 0 (t := i) (by decide) shp_40 rfl rfl hr (w_getr W 0 11 (t := i + 2) hC.lt hC.sh rfl rfl (hC.rf2 _) (x_iload rfl (w_iald W _ hC.lt2 hC.sh2 rfl (by omega) (by decide) (x_istore rfl (x_aload rfl (w_getr W 1 0 (t := i) (by decide) shp_40 rfl rfl hr (w_getr W 0 10 (t := i + 1) hC.lt hC.sh rfl rfl (hC.rf1 _) (x_iload rfl (w_iald W _ hC.lt1 hC.sh1 rfl (by omega) (by decide) (x_ts (b := 2) (by rw [f1, hc]; rfl) (hJ 2 _ _ rfl _ _ _ _ (x_aload rfl (w_getr W 1 0 (t := i) (by decide) shp_40 rfl rfl hr (x_aload rfl (w_geti W 1 2 (by decide) shp_40 rfl rfl (x_iload rfl (x_cv rfl (Nat.le_of_ble_eq_true rfl) (isO_W W hC.lt hC.sh) (c_has rfl (by omega) (xk_go (x_iret (by first | exact nrwB _ | rfl | decide) ?_))))))))))))))))))))))
    have e : comesG V p fog m (come, wn w 40 4) = (hb (lastP p) m, wn w 40 4) := by unfold comesG; simp (decide := true) only [hc, if_true, if_false]
    rw [e] at kk
    have kk := kk h hW0
    rw [hw2]
    exact kk
  · refine hJ 0 _ _ rfl _ _ _ _ (x_aload rfl (w_getr W 1 0 (t := i) (by decide) shp_40 rfl rfl hr (w_getr W 0 11 (t := i + 2) hC.lt hC.sh rfl rfl (hC.rf2 _) (x_iload rfl (w_iald W _ hC.lt2 hC.sh2 rfl (by omega) (by decide) (x_istore rfl (x_aload rfl (w_getr W 1 0 (t := i) (by decide) shp_40 rfl rfl hr (w_getr W 0 10 (t := i + 1) hC.lt hC.sh rfl rfl (hC.rf1 _) (x_iload rfl (w_iald W _ hC.lt1 hC.sh1 rfl (by omega) (by decide) (x_ts (b := 3) (by rw [f1, hc]; rfl) (hJ 3 _ _ rfl _ _ _ _ (x_aload rfl (w_getr W 1 0 (t := i) (by decide) shp_40 rfl rfl hr (x_aload rfl (w_geti W 1 2 (by decide) shp_40 rfl rfl (x_iload rfl (x_cv rfl (Nat.le_of_ble_eq_true rfl) (isO_W W hC.lt hC.sh) (c_has rfl (by omega) (xk_go (x_br (fun b1 => have b1 := bI_ne0.mp b1; hJ 4 _ _ rfl _ _ _ _ (x_sipush (x_goto (hJ 5 _ _ rfl _ _ _ _ (x_iret (by first | exact nrwB _ | rfl | decide) ?_))))) (fun b1 => have b1 := bI_nn b1; x_sipush (x_goto (hJ 5 _ _ rfl _ _ _ _ (x_iret (by first | exact nrwB _ | rfl | decide) ?_))))))))))))))))))))))))))
    · have e : comesG V p fog m (come, wn w 40 4) = (!hb (lastP p) m, wn w 40 4) := by unfold comesG; simp (decide := true) only [hc, if_true, if_false]
      rw [e] at kk
      have kk := kk h hW0
      rw [hw2] at b1
      rw [b1] at kk
      exact kk
    · have e : comesG V p fog m (come, wn w 40 4) = (!hb (lastP p) m, wn w 40 4) := by unfold comesG; simp (decide := true) only [hc, if_true, if_false]
      rw [e] at kk
      have kk := kk h hW0
      rw [hw2] at b1
      rw [b1] at kk
      exact kk
  · refine hJ 0 _ _ rfl _ _ _ _ (x_aload rfl (w_getr W 1 0 (t := i) (by decide) shp_40 rfl rfl hr (w_getr W 0 11 (t := i + 2) hC.lt hC.sh rfl rfl (hC.rf2 _) (x_iload rfl (w_iald W _ hC.lt2 hC.sh2 rfl (by omega) (by decide) (x_istore rfl (x_aload rfl (w_getr W 1 0 (t := i) (by decide) shp_40 rfl rfl hr (w_getr W 0 10 (t := i + 1) hC.lt hC.sh rfl rfl (hC.rf1 _) (x_iload rfl (w_iald W _ hC.lt1 hC.sh1 rfl (by omega) (by decide) (x_ts (b := 6) (by rw [f1, hc]; rfl) (hJ 6 _ _ rfl _ _ _ _ (x_aload rfl (w_geti W 1 2 (by decide) shp_40 rfl rfl (x_cs rfl (Nat.le_of_ble_eq_true rfl) (c_bitc hs2 (xk_go (x_iload rfl (x_br2 (fun b1 => have b1 := cy_ge b1; hJ 7 _ _ rfl _ _ _ _ (x_sipush (x_goto (hJ 8 _ _ rfl _ _ _ _ (x_iret (by first | exact nrwB _ | rfl | decide) ?_))))) (fun b1 => have b1 := cn_ge b1; x_sipush (x_goto (hJ 8 _ _ rfl _ _ _ _ (x_iret (by first | exact nrwB _ | rfl | decide) ?_))))))))))))))))))))))))
    · have e : comesG V p fog m (come, wn w 40 4) = (decide (kI (pc (lastP p) : Int) < vN V m), wn w 40 4) := by unfold comesG; simp (decide := true) only [hc, if_true, if_false]
      rw [e] at kk
      have kk := kk h hW0
      rw [hw2, f2] at b1
      rw [decide_eq_false (Int32.not_lt.mpr b1)] at kk
      exact kk
    · have e : comesG V p fog m (come, wn w 40 4) = (decide (kI (pc (lastP p) : Int) < vN V m), wn w 40 4) := by unfold comesG; simp (decide := true) only [hc, if_true, if_false]
      rw [e] at kk
      have kk := kk h hW0
      rw [hw2, f2] at b1
      rw [decide_eq_true b1] at kk
      exact kk
  · refine hJ 0 _ _ rfl _ _ _ _ (x_aload rfl (w_getr W 1 0 (t := i) (by decide) shp_40 rfl rfl hr (w_getr W 0 11 (t := i + 2) hC.lt hC.sh rfl rfl (hC.rf2 _) (x_iload rfl (w_iald W _ hC.lt2 hC.sh2 rfl (by omega) (by decide) (x_istore rfl (x_aload rfl (w_getr W 1 0 (t := i) (by decide) shp_40 rfl rfl hr (w_getr W 0 10 (t := i + 1) hC.lt hC.sh rfl rfl (hC.rf1 _) (x_iload rfl (w_iald W _ hC.lt1 hC.sh1 rfl (by omega) (by decide) (x_ts (b := 9) (by rw [f1, hc]; rfl) (hJ 9 _ _ rfl _ _ _ _ (x_aload rfl (w_geti W 1 2 (by decide) shp_40 rfl rfl (x_cs rfl (Nat.le_of_ble_eq_true rfl) (c_bitc hs2 (xk_go (x_iload rfl (x_br2 (fun b1 => have b1 := cy_le b1; hJ 10 _ _ rfl _ _ _ _ (x_sipush (x_goto (hJ 11 _ _ rfl _ _ _ _ (x_iret (by first | exact nrwB _ | rfl | decide) ?_))))) (fun b1 => have b1 := cn_le b1; x_sipush (x_goto (hJ 11 _ _ rfl _ _ _ _ (x_iret (by first | exact nrwB _ | rfl | decide) ?_))))))))))))))))))))))))
    · have e : comesG V p fog m (come, wn w 40 4) = (decide (vN V m < kI (pc (lastP p) : Int)), wn w 40 4) := by unfold comesG; simp (decide := true) only [hc, if_true, if_false]
      rw [e] at kk
      have kk := kk h hW0
      rw [hw2, f2] at b1
      rw [decide_eq_false (Int32.not_lt.mpr b1)] at kk
      exact kk
    · have e : comesG V p fog m (come, wn w 40 4) = (decide (vN V m < kI (pc (lastP p) : Int)), wn w 40 4) := by unfold comesG; simp (decide := true) only [hc, if_true, if_false]
      rw [e] at kk
      have kk := kk h hW0
      rw [hw2, f2] at b1
      rw [decide_eq_true b1] at kk
      exact kk
  · have h61 : 1 ≤ nN V m := by
      have := h6 hc
      unfold nN
      omega
    have hmod := Nat.mod_lt p.2 (show nN V m > 0 by omega)
    refine hJ 0 _ _ rfl _ _ _ _ (x_aload rfl (w_getr W 1 0 (t := i) (by decide) shp_40 rfl rfl hr (w_getr W 0 11 (t := i + 2) hC.lt hC.sh rfl rfl (hC.rf2 _) (x_iload rfl (w_iald W _ hC.lt2 hC.sh2 rfl (by omega) (by decide) (x_istore rfl (x_aload rfl (w_getr W 1 0 (t := i) (by decide) shp_40 rfl rfl hr (w_getr W 0 10 (t := i + 1) hC.lt hC.sh rfl rfl (hC.rf1 _) (x_iload rfl (w_iald W _ hC.lt1 hC.sh1 rfl (by omega) (by decide) (x_ts (b := 12) (by rw [f1, hc]; rfl) (hJ 12 _ _ rfl _ _ _ _ (x_iload rfl (x_br (fun b1 => have b1 := cy_le b1; hJ 13 _ _ rfl _ _ _ _ (x_sipush (x_goto (hJ 14 _ _ rfl _ _ _ _ (x_iret (by first | exact nrwB _ | rfl | decide) ?_))))) (fun b1 => have b1 := cn_le b1; x_aload rfl (w_geti W 1 1 (by decide) shp_40 rfl rfl (x_iload rfl (x_irem (fun z => by rw [z] at b1; exact absurd b1 (by decide)) (x_br (fun b2 => have b2 := cy_ne b2; hJ 13 _ _ rfl _ _ _ _ (x_sipush (x_goto (hJ 14 _ _ rfl _ _ _ _ (x_iret (by first | exact nrwB _ | rfl | decide) ?_))))) (fun b2 => have b2 := cn_ne b2; x_sipush (x_goto (hJ 14 _ _ rfl _ _ _ _ (x_iret (by first | exact nrwB _ | rfl | decide) ?_))))))))))))))))))))))))
    · rw [f2, hnum.1, show (0 : Int32) = kI ((0 : Nat) : Int) from rfl, kN_le (by omega) (by omega)] at b1
      omega
    · have e : comesG V p fog m (come, wn w 40 4) = (decide (p.2 % nN V m = 0), wn w 40 4) := by unfold comesG; simp (decide := true) only [hc, if_true, if_false]
      rw [e] at kk
      have kk := kk h hW0
      rw [f2, hnum.1, hco.2.1, kN_rem (by omega) (by omega), kN_eq0 (by omega)] at b2
      rw [decide_eq_false b2] at kk
      exact kk
    · have e : comesG V p fog m (come, wn w 40 4) = (decide (p.2 % nN V m = 0), wn w 40 4) := by unfold comesG; simp (decide := true) only [hc, if_true, if_false]
      rw [e] at kk
      have kk := kk h hW0
      rw [f2, hnum.1, hco.2.1, kN_rem (by omega) (by omega), kN_eq0 (by omega)] at b2
      rw [decide_eq_true b2] at kk
      exact kk
  · have e : comesG V p fog m (come, wn w 40 4) = (bySee V m (kI ((seenG V fog come (wn w 40 4) m).1 : Int)), (seenG V fog come (wn w 40 4) m).2) := by unfold comesG; simp (decide := true) only [hc, if_true, if_false]
    rw [e, ← seenHG_eq (Nat.le_of_lt hm) hn] at kk
    exact hJ 0 _ _ rfl _ _ _ _ (x_aload rfl (w_getr W 1 0 (t := i) (by decide) shp_40 rfl rfl hr (w_getr W 0 11 (t := i + 2) hC.lt hC.sh rfl rfl (hC.rf2 _) (x_iload rfl (w_iald W _ hC.lt2 hC.sh2 rfl (by omega) (by decide) (x_istore rfl (x_aload rfl (w_getr W 1 0 (t := i) (by decide) shp_40 rfl rfl hr (w_getr W 0 10 (t := i + 1) hC.lt hC.sh rfl rfl (hC.rf1 _) (x_iload rfl (w_iald W _ hC.lt1 hC.sh1 rfl (by omega) (by decide) (x_ts (b := 15) (by rw [f1, hc]; rfl) (hJ 15 _ _ rfl _ _ _ _ (x_aload rfl (w_getr W 1 0 (t := i) (by decide) shp_40 rfl rfl hr (x_iload rfl (x_aload rfl (x_aload rfl (w_getr W 1 0 (t := i) (by decide) shp_40 rfl rfl hr (x_iload rfl (x_iload rfl (x_cv rfl (Nat.le_of_ble_eq_true rfl) (isO_W W hC.lt hC.sh) (c_hatsAhead W hC hR hV rfl hm (xk_go (x_cv rfl (Nat.le_of_ble_eq_true rfl) (isO_W W (by decide) shp_40) (c_hatsSeen W hC hR hV hr hco.2.2.2.1 (sok.mono (sok.mkS (by omega)) (Nat.le_of_lt hm) hn) (fun h1 W1 => xk_go (x_cv rfl (Nat.le_of_ble_eq_true rfl) (isO_W W1 hC.lt hC.sh) (c_comesBySeeing W1 hC (hR.draw hC) hV rfl hm (xk_go (x_iret (by first | exact nrwB _ | rfl | decide) (kk _ W1))))))))))))))))))))))))))))))))
  · have e : comesG V p fog m (come, wn w 40 4) = (bySee V m (kI ((seenG V fog come (wn w 40 4) m).1 : Int)), (seenG V fog come (wn w 40 4) m).2) := by unfold comesG; simp (decide := true) only [hc, if_true, if_false]
    rw [e, ← seenHG_eq (Nat.le_of_lt hm) hn] at kk
    exact hJ 0 _ _ rfl _ _ _ _ (x_aload rfl (w_getr W 1 0 (t := i) (by decide) shp_40 rfl rfl hr (w_getr W 0 11 (t := i + 2) hC.lt hC.sh rfl rfl (hC.rf2 _) (x_iload rfl (w_iald W _ hC.lt2 hC.sh2 rfl (by omega) (by decide) (x_istore rfl (x_aload rfl (w_getr W 1 0 (t := i) (by decide) shp_40 rfl rfl hr (w_getr W 0 10 (t := i + 1) hC.lt hC.sh rfl rfl (hC.rf1 _) (x_iload rfl (w_iald W _ hC.lt1 hC.sh1 rfl (by omega) (by decide) (x_ts (b := 15) (by rw [f1, hc]; rfl) (hJ 15 _ _ rfl _ _ _ _ (x_aload rfl (w_getr W 1 0 (t := i) (by decide) shp_40 rfl rfl hr (x_iload rfl (x_aload rfl (x_aload rfl (w_getr W 1 0 (t := i) (by decide) shp_40 rfl rfl hr (x_iload rfl (x_iload rfl (x_cv rfl (Nat.le_of_ble_eq_true rfl) (isO_W W hC.lt hC.sh) (c_hatsAhead W hC hR hV rfl hm (xk_go (x_cv rfl (Nat.le_of_ble_eq_true rfl) (isO_W W (by decide) shp_40) (c_hatsSeen W hC hR hV hr hco.2.2.2.1 (sok.mono (sok.mkS (by omega)) (Nat.le_of_lt hm) hn) (fun h1 W1 => xk_go (x_cv rfl (Nat.le_of_ble_eq_true rfl) (isO_W W1 hC.lt hC.sh) (c_comesBySeeing W1 hC (hR.draw hC) hV rfl hm (xk_go (x_iret (by first | exact nrwB _ | rfl | decide) (kk _ W1))))))))))))))))))))))))))))))))
  · have h91 : nN V m ≤ 6 := by
      have := h9 hc
      unfold nN
      omega
    refine hJ 0 _ _ rfl _ _ _ _ (x_aload rfl (w_getr W 1 0 (t := i) (by decide) shp_40 rfl rfl hr (w_getr W 0 11 (t := i + 2) hC.lt hC.sh rfl rfl (hC.rf2 _) (x_iload rfl (w_iald W _ hC.lt2 hC.sh2 rfl (by omega) (by decide) (x_istore rfl (x_aload rfl (w_getr W 1 0 (t := i) (by decide) shp_40 rfl rfl hr (w_getr W 0 10 (t := i + 1) hC.lt hC.sh rfl rfl (hC.rf1 _) (x_iload rfl (w_iald W _ hC.lt1 hC.sh1 rfl (by omega) (by decide) (x_ts (b := 16) (by rw [f1, hc]; rfl) (hJ 16 _ _ rfl _ _ _ _ (x_aload rfl (w_getr W 1 0 (t := i) (by decide) shp_40 rfl rfl hr (x_aload rfl (w_getr W 1 0 (t := i) (by decide) shp_40 rfl rfl hr (x_aload rfl (w_geti W 1 2 (by decide) shp_40 rfl rfl (x_iload rfl (x_cv rfl (Nat.le_of_ble_eq_true rfl) (isO_W W hC.lt hC.sh) (c_thoughts W hC hR hV hs2 (f2.trans hnum.1) (by omega) (xk_go (x_iload rfl (x_cv rfl (Nat.le_of_ble_eq_true rfl) (isO_W W hC.lt hC.sh) (c_has rfl (by omega) (xk_go (x_iret (by first | exact nrwB _ | rfl | decide) ?_))))))))))))))))))))))))))))
    have e : comesG V p fog m (come, wn w 40 4) = (hb (thoughtsV V (lastP p) (nN V m)) m, wn w 40 4) := by unfold comesG; simp (decide := true) only [hc, if_true, if_false]
    rw [e] at kk
    have kk := kk h hW0
    rw [hw2]
    exact kk
  · refine hJ 0 _ _ rfl _ _ _ _ (x_aload rfl (w_getr W 1 0 (t := i) (by decide) shp_40 rfl rfl hr (w_getr W 0 11 (t := i + 2) hC.lt hC.sh rfl rfl (hC.rf2 _) (x_iload rfl (w_iald W _ hC.lt2 hC.sh2 rfl (by omega) (by decide) (x_istore rfl (x_aload rfl (w_getr W 1 0 (t := i) (by decide) shp_40 rfl rfl hr (w_getr W 0 10 (t := i + 1) hC.lt hC.sh rfl rfl (hC.rf1 _) (x_iload rfl (w_iald W _ hC.lt1 hC.sh1 rfl (by omega) (by decide) (x_ts (b := 17) (by rw [f1, hc]; rfl) (hJ 17 _ _ rfl _ _ _ _ (x_aload rfl (w_getr W 1 5 (t := 41) (by decide) shp_40 rfl rfl rfl (x_iload rfl (w_iald W _ (by decide) shp_41 rfl (by omega) (by decide) (x_br (fun b1 => have b1 := cy_le b1; hJ 18 _ _ rfl _ _ _ _ (x_sipush (x_goto (hJ 19 _ _ rfl _ _ _ _ (x_iret (by first | exact nrwB _ | rfl | decide) ?_))))) (fun b1 => have b1 := cn_le b1; x_sipush (x_goto (hJ 19 _ _ rfl _ _ _ _ (x_iret (by first | exact nrwB _ | rfl | decide) ?_))))))))))))))))))))))
    · have e : comesG V p fog m (come, wn w 40 4) = (decide (0 < lrnV V p m), wn w 40 4) := by unfold comesG; simp (decide := true) only [hc, if_true, if_false]
      rw [e] at kk
      have kk := kk h hW0
      rw [hco.2.2.2.2 m hm hc] at b1
      rw [decide_eq_false (Int32.not_lt.mpr b1)] at kk
      exact kk
    · have e : comesG V p fog m (come, wn w 40 4) = (decide (0 < lrnV V p m), wn w 40 4) := by unfold comesG; simp (decide := true) only [hc, if_true, if_false]
      rw [e] at kk
      have kk := kk h hW0
      rw [hco.2.2.2.2 m hm hc] at b1
      rw [decide_eq_true b1] at kk
      exact kk
theorem c_comers (W : WW ad w h) (hC : isC i) (hR : CR w i V) (hV : VOK V) (hco : CoR w i V p fog) (hp : POK V p) (kk : ∀ h', WW ad (sn w 40 4 (goesG V p fog (wn w 40 4)).2) h' → P (.inl (some (.int (goesG V p fog (wn w 40 4)).1))) h') : WP ga L xs (d + 4) 36 [.ref (ad 40)] h P := by
  have hn := hV.n.2
  have hr := hco.1
  refine WP.enter kX1_comers (Nat.le_of_ble_eq_true rfl) (fun J hJ => ?_)
  have loop : ∀ m, m ≤ nm V → ∀ h', WW ad (sn w 40 4 (fo (goesF V p fog) (kI 0, wn w 40 4) m).2) h' → J 1 [some (.ref (ad 40)), some (.int (fo (goesF V p fog) (kI 0, wn w 40 4) m).1), some (.int (kI (m : Int)))] [] h' (0, 0) := up_ind (fun m hm ih h0 W0 => ?_)
  · refine hJ 0 _ _ rfl _ _ _ _ (x_sipush (x_istore rfl (x_sipush (x_istore rfl (x_goto (?_))))))
    exact loop 0 (Nat.zero_le _) h (by show WW ad (sn w 40 4 (wn w 40 4)) h; rw [sn_self]; exact W)
  have hR0 : CR (sn w 40 4 (fo (goesF V p fog) (kI 0, wn w 40 4) m).2) i V := hR.draw hC
  have hs0 := sok_goes (V := V) (p := p) (fog := fog) (x := wn w 40 4) hn m hm
  have ec : m < nm V → fo (goesF V p fog) (kI 0, wn w 40 4) (m + 1) = ((fo (goesF V p fog) (kI 0, wn w 40 4) m).1 ||| (if (comesG V p fog m (fo (goesF V p fog) (kI 0, wn w 40 4) m)).1 = true then b1 m else kI 0), (comesG V p fog m (fo (goesF V p fog) (kI 0, wn w 40 4) m)).2) := fun _ => rfl
  have ew : ∀ x : Int32, wn (sn w 40 4 x) 40 4 = x := fun x => by rw [wn_sn, if_pos ⟨rfl, rfl⟩]
  refine hJ 1 _ _ rfl _ _ _ _ (x_iload rfl (x_aload rfl (w_getr W0 1 0 (t := i) (by decide) shp_40 rfl rfl hr (w_geti W0 0 4 hC.lt hC.sh rfl rfl (x_br2 (fun b1 => have b1 := ge_y (hR0.n hV) (by omega) b1; hJ 3 _ _ rfl _ _ _ _ (x_iload rfl (x_iret (nrwI _) ?_))) (fun b1 => have b1 := ge_n (hR0.n hV) (by omega) b1; x_aload rfl (x_iload rfl (x_iload rfl (x_cv rfl (Nat.le_of_ble_eq_true rfl) (isO_W W0 (by decide) shp_40) (c_comes W0 hC hR0 hV hco.draw hp rfl b1 hs0 (fun h1 W1 => xk_go (x_br (fun b2 => have b2 := bI_eq0.mp b2; hJ 2 _ _ rfl _ _ _ _ (x_iinc rfl rfl (x_goto (?_)))) (fun b2 => have b2 := bI_ne0.mp b2; x_iload rfl (x_sipush (x_iload rfl (x_shl1 (by omega) (x_ior (x_istore rfl (x_goto (hJ 2 _ _ rfl _ _ _ _ (x_iinc rfl rfl (x_goto (?_)))))))))))))))))))))))
  · have e : m = nm V := by omega
    subst e
    exact kk h0 W0
  · rw [ew] at b2 W1
    rw [sn_sn] at W1
    have b2 : (comesG V p fog m (fo (goesF V p fog) (kI 0, wn w 40 4) m)).1 = false := b2
    have ec := ec b1
    rw [b2] at ec
    refine J_c (ih b1 h1 (by rw [ec]; exact W1)) ?_
    rw [ec]
    simp only [sI, kN_succ, Bool.false_eq_true, if_false, kI_zero, Int32.or_zero]
  · rw [ew] at b2 W1
    rw [sn_sn] at W1
    have b2 : (comesG V p fog m (fo (goesF V p fog) (kI 0, wn w 40 4) m)).1 = true := b2
    have ec := ec b1
    rw [b2] at ec
    refine J_c (ih b1 h1 (by rw [ec]; exact W1)) ?_
    rw [ec]
    simp only [sI, kN_succ, if_true]
end C1
end
section
/-! ===== the course: weeks that go by ===== -/
theorem upd_self (f : Nat → Int32) (k : Nat) (x : Int32) : upd f k x k = x := if_pos rfl
theorem upd_ne {f : Nat → Int32} {k j : Nat} {x : Int32} (h : j ≠ k) : upd f k x j = f j := if_neg h
theorem upd_upd (f : Nat → Int32) (k : Nat) (x y : Int32) : upd (upd f k x) k y = upd f k y := by
  funext j
  unfold upd
  split <;> rfl
theorem sa_sa (w : Wst) (i : Nat) (f g : Nat → Int32) : sa (sa w i f) i g = sa w i g := by
  unfold sa
  refine Prod.ext rfl (Prod.ext rfl (Prod.ext ?_ rfl))
  funext a
  show (if a = i then g else if a = i then f else wa w a) = if a = i then g else wa w a
  split <;> rfl
theorem wa_self (w : Wst) (i : Nat) (f : Nat → Int32) : wa (sa w i f) i = f := if_pos rfl
section C1
variable {p : PT} {fog : Bool}
variable {ga : Nat → Nat} {L : Nat} {xs : Nat → Int32} {d : Nat} {h : ac_H} {P : ac_P} {ad : Nat → Nat} {w : Wst} {i : Nat} {V : VT}
theorem c_comersInFog {x : Int32} (W : WW ad w h) (hC : isC i) (hR : CR w i V) (hV : VOK V) (hco : CoR w i V p false) (hp : POK V p) (kk : ∀ h' w', WW ad w' h' → kp [40] w w' → P (.inl (some (.int (goesG V p true x).1))) h') : WP ga L xs (d + 5) 35 [.ref (ad 40), .int x] h P := by
  refine WP.enter kX1_comersInFog (Nat.le_of_ble_eq_true rfl) (fun J hJ => ?_)
  refine hJ 0 _ _ rfl _ _ _ _ (x_aload rfl (x_sipush (w_puti W 1 3 (by decide) shp_40 rfl rfl (okB1 rfl) (fun h1 W1 => x_aload rfl (x_iload rfl (w_puti W1 1 4 (by decide) shp_40 rfl rfl (okI rfl) (fun h2 W2 => x_aload rfl (x_cv rfl (Nat.le_of_ble_eq_true rfl) (isO_W W2 (by decide) shp_40) (c_comers (fog := true) W2 hC ((hR.far (l := [40]) ((kp_sn (by simp)).trans (kp_sn (by simp))) hC (by simp))) hV ⟨hco.1, hco.2.1, hco.2.2.1, rfl, hco.2.2.2.2⟩ hp (fun h3 W3 => xk_go (x_iret (nrwI _) (kk _ _ W3 (((kp_sn (by simp)).trans (kp_sn (by simp))).trans (kp_sn (by simp)))))))))))))))
theorem c_recall {x : Int32} {m0 : Nat} (W : WW ad w h) (hC : isC i) (hR : CR w i V) (hV : VOK V) (hr : wr w 40 0 = i) (hx : x = kI (m0 : Int)) (hm : m0 < nm V) (hz : wa w 41 m0 = kI 0) (kk : ∀ h', WW ad (sa w 41 (upd (wa w 41) m0 (lrnV V (startP V) m0))) h' → P (.inl none) h') : WP ga L xs (d + 4) 33 [.ref (ad 40), .int x] h P := by
  subst hx
  have hn := hV.n.2
  have hw := hV.w.2
  refine WP.enter kX1_recall (Nat.le_of_ble_eq_true rfl) (fun J hJ => ?_)
  have loop : ∀ m, m ≤ wk V → ∀ h', WW ad (sa w 41 (upd (wa w 41) m0 (lrnV V (vS V, m) m0))) h' → J 1 [some (.ref (ad 40)), some (.int (kI (m0 : Int))), some (.int (kI (m : Int)))] [] h' (0, 0) := up_ind (fun m hm2 ih h0 W0 => ?_)
  · refine hJ 0 _ _ rfl _ _ _ _ (x_sipush (x_istore rfl (x_goto (?_))))
    refine loop 0 (Nat.zero_le _) h ?_
    have e : sa w 41 (upd (wa w 41) m0 (lrnV V (vS V, 0) m0)) = w := by
      unfold sa
      refine Prod.ext rfl (Prod.ext rfl (Prod.ext ?_ rfl))
      funext a
      show (if a = 41 then upd (wa w 41) m0 (kI 0) else wa w a) = wa w a
      split
      · rename_i e
        subst e
        funext j
        unfold upd
        split
        · rename_i e2
          rw [e2, hz]
        · rfl
      · rfl
    rw [e]
    exact W
  have hR0 : CR (sa w 41 (upd (wa w 41) m0 (lrnV V (vS V, m) m0))) i V := hR.far (l := [41]) (kp_sa (by simp)) hC (by simp)
  have hs : m < wk V → sok (nm V) (wa (sa w 41 (upd (wa w 41) m0 (lrnV V (vS V, m) m0))) (i + 4) m ||| b1 m0) := fun h9 => by
    rw [hR0.2.2.1 m h9]
    exact (hV.2.2 m h9).or (sok.b1 hn hm)
  refine hJ 1 _ _ rfl _ _ _ _ (x_iload rfl (x_aload rfl (w_getr W0 1 0 (t := i) (by decide) shp_40 rfl rfl hr (w_geti W0 0 6 hC.lt hC.sh rfl rfl (x_br2 (fun b1 => have b1 := ge_y (hR0.w hV) (by omega) b1; hJ 2 _ _ rfl _ _ _ _ (x_vret rfl ?_)) (fun b1 => have b1 := ge_n (hR0.w hV) (by omega) b1; x_aload rfl (w_getr W0 1 5 (t := 41) (by decide) shp_40 rfl rfl rfl (x_iload rfl (x_dup2 (w_iald W0 _ (by decide) shp_41 rfl (by omega) (by decide) (x_aload rfl (w_getr W0 1 0 (t := i) (by decide) shp_40 rfl rfl hr (x_iload rfl (x_aload rfl (w_getr W0 1 0 (t := i) (by decide) shp_40 rfl rfl hr (w_getr W0 0 13 (t := i + 4) hC.lt hC.sh rfl rfl (hC.rf4 _) (x_iload rfl (w_iald W0 _ hC.lt4 hC.sh4 rfl (by omega) (by decide) (x_sipush (x_iload rfl (x_shl1 (by omega) (x_ior (x_cv rfl (Nat.le_of_ble_eq_true rfl) (isO_W W0 hC.lt hC.sh) (c_payOf W0 hC hR0 hV (hs b1) rfl hm (xk_go (x_iadd (w_iast W0 _ (by decide) shp_41 rfl (by omega) (by decide) (fun h1 W1 => x_iinc rfl rfl (x_goto (?_))))))))))))))))))))))))))))))
  · have e : m = wk V := by omega
    subst e
    exact kk h0 W0
  · refine J_c (ih b1 h1 ?_) ?_
    · rw [wa_self, sa_sa, upd_upd, upd_self, hR0.2.2.1 m b1] at W1
      exact W1
    · simp only [sI, kN_succ]
theorem c_start (W : WW ad w h) (hC : isC i) (hR : CR w i V) (hV : VOK V) (kk : ∀ h' w', WW ad w' h' → kp [40, 41] w w' → CoR w' i V (startP V) false → wn w' 40 4 = wn w 40 4 → P (.inl none) h') : WP ga L xs (d + 5) 32 [.ref (ad 40), .ref (ad i)] h P := by
  have hn := hV.n.2
  have hw := hV.w.2
  refine WP.enter kX1_start (Nat.le_of_ble_eq_true rfl) (fun J hJ => ?_)
  have loop : ∀ m, m ≤ nm V → ∀ h' w', WW ad w' h' → kp [40, 41] w w' → (wr w' 40 0 = i ∧ wn w' 40 1 = kI (wk V : Int) ∧ wn w' 40 2 = lastV V ∧ wn w' 40 3 = kI 0 ∧ wn w' 40 4 = wn w 40 4) → (∀ j, j < m → vR V j = kI 10 → wa w' 41 j = lrnV V (startP V) j) → J 1 [some (.ref (ad 40)), some (.ref (ad i)), some (.int (kI (m : Int)))] [] h' (0, 0) := up_ind (fun m hm ih h0 w0 W0 hk hc hf => ?_)
  · have hRr : CR (sr w 40 0 i) i V := hR.far (l := [40]) (kp_sr (by simp)) hC (by simp)
    have hRr1 : ∀ x, CR (sn (sr w 40 0 i) 40 1 x) i V := fun x => hRr.far (l := [40]) (kp_sn (by simp)) hC (by simp)
    refine hJ 0 _ _ rfl _ _ _ _ (x_aload rfl (x_aload rfl (w_putr W 1 0 i (by decide) shp_40 rfl rfl ⟨rfl, rfl⟩ ?_ (fun h1 W1 => x_aload rfl (x_aload rfl (w_geti W1 0 6 hC.lt hC.sh rfl rfl (w_puti W1 1 1 (by decide) shp_40 rfl rfl (okI rfl) (fun h2 W2 => x_aload rfl (x_aload rfl (x_cv rfl (Nat.le_of_ble_eq_true rfl) (isO_W W2 hC.lt hC.sh) (c_lastSet W2 hC (hRr1 _) hV (xk_go (w_puti W2 1 2 (by decide) shp_40 rfl rfl (okI rfl) (fun h3 W3 => x_aload rfl (x_sipush (w_puti W3 1 3 (by decide) shp_40 rfl rfl (okB0 rfl) (fun h4 W4 => x_sipush (x_istore rfl (x_goto (?_))))))))))))))))))))
    · intro b
      unfold rfx
      rw [shp_40]
      show (if b = 0 then wr (sr w 40 0 i) 40 0 else _) = if b = 0 then i else if b = 0 then wr w 40 0 else _
      split
      · rw [wr_sr, if_pos ⟨rfl, rfl⟩]
      · rfl
    · exact loop 0 (Nat.zero_le _) _ _ W4 ((((kp_sr (by simp)).trans (kp_sn (by simp))).trans (kp_sn (by simp))).trans (kp_sn (by simp))) ⟨rfl, hRr.w hV, rfl, rfl, rfl⟩ (fun j hj => by omega)
  have hR0 := hR.far hk hC (by simp)
  have hR1 : ∀ f, CR (sa w0 41 f) i V := fun f => hR0.far (l := [41]) (kp_sa (by simp)) hC (by simp)
  have hka : ∀ {w1 : Wst} {f : Nat → Int32}, kp [40, 41] w w1 → kp [40, 41] w (sa w1 41 f) := fun h => h.trans (kp_sa (by simp))
  refine hJ 1 _ _ rfl _ _ _ _ (x_iload rfl (x_aload rfl (w_geti W0 0 4 hC.lt hC.sh rfl rfl (x_br2 (fun b1 => have b1 := ge_y (hR0.n hV) (by omega) b1; hJ 3 _ _ rfl _ _ _ _ (x_vret rfl ?_)) (fun b1 => have b1 := ge_n (hR0.n hV) (by omega) b1; x_aload rfl (w_getr W0 1 5 (t := 41) (by decide) shp_40 rfl rfl rfl (x_iload rfl (x_sipush (w_iast W0 _ (by decide) shp_41 rfl (by omega) (by decide) (fun h1 W1 => x_aload rfl (w_getr W1 0 10 (t := i + 1) hC.lt hC.sh rfl rfl (hC.rf1 _) (x_iload rfl (w_iald W1 _ hC.lt1 hC.sh1 rfl (by omega) (by decide) (x_sipush (x_br2 (fun b2 => have b2 := cy_ne b2; hJ 2 _ _ rfl _ _ _ _ (x_iinc rfl rfl (x_goto (?_)))) (fun b2 => have b2 := cn_ne b2; x_aload rfl (x_iload rfl (x_cv rfl (Nat.le_of_ble_eq_true rfl) (isO_W W1 (by decide) shp_40) (c_recall W1 hC (hR1 _) hV hc.1 rfl b1 ?_ (fun h2 W2 => xk_v (x_goto (hJ 2 _ _ rfl _ _ _ _ (x_iinc rfl rfl (x_goto (?_)))))))))))))))))))))))))
  · have e : m = nm V := by omega
    subst e
    exact kk h0 _ W0 hk ⟨hc.1, hc.2.1, hc.2.2.1, hc.2.2.2.1, hf⟩ hc.2.2.2.2
  · rw [((hR1 _).2.1 m b1).1] at b2
    refine J_c (ih b1 h1 _ W1 (hka hk) hc (fun j hj h10 => ?_)) ?_
    · have hjm : j ≠ m := fun z => b2 (z ▸ h10)
      rw [wa_self, upd_ne hjm]
      exact hf j (by omega) h10
    · simp only [sI, kN_succ]
  · rw [wa_self, upd_self]
  · refine J_c (ih b1 h2 _ W2 (hka (hka hk)) hc (fun j hj h10 => ?_)) ?_
    · rw [wa_self]
      by_cases hjm : j = m
      · rw [hjm, upd_self]
      · rw [upd_ne hjm, wa_self, upd_ne hjm]
        exact hf j (by omega) h10
    · simp only [sI, kN_succ]
theorem c_go (W : WW ad w h) (hC : isC i) (hR : CR w i V) (hV : VOK V) (hco : CoR w i V p false) (hp : POK V p) (hp2 : p.2 < 470) (kk : ∀ h' w', WW ad w' h' → kp [40, 41] w w' → CoR w' i V (goP V p) false → P (.inl (some (.int (nextP V p)))) h') : WP ga L xs (d + 5) 34 [.ref (ad 40)] h P := by
  have hn := hV.n.2
  have hr := hco.1
  have hs := sok_next (V := V) (p := p) hn
  have hg : goesG V p false (wn w 40 4) = (nextP V p, wn w 40 4) := goes_nofog
  refine WP.enter kX1_go (Nat.le_of_ble_eq_true rfl) (fun J hJ => ?_)
  have loop : ∀ m, m ≤ nm V → ∀ h' w', WW ad w' h' → kp [40, 41] w w' → (wr w' 40 0 = i ∧ wn w' 40 1 = kI (p.2 : Int) ∧ wn w' 40 2 = lastP p ∧ wn w' 40 3 = bI false) → (∀ j, j < nm V → vR V j = kI 10 → wa w' 41 j = if j < m then lrnV V (goP V p) j else lrnV V p j) → J 1 [some (.ref (ad 40)), some (.int (nextP V p)), some (.int (kI (m : Int)))] [] h' (0, 0) := up_ind (fun m hm ih h0 w0 W0 hk hc hf => ?_)
  · refine hJ 0 _ _ rfl _ _ _ _ (x_aload rfl (x_cv rfl (Nat.le_of_ble_eq_true rfl) (isO_W W (by decide) shp_40) (c_comers W hC hR hV hco hp (fun h1 W1 => xk_go (x_istore rfl (x_sipush (x_istore rfl (x_goto (?_)))))))))
    rw [hg, sn_self] at W1
    rw [hg]
    exact loop 0 (Nat.zero_le _) _ _ W1 kp_refl ⟨hco.1, hco.2.1, hco.2.2.1, hco.2.2.2.1⟩ (fun j hj h10 => by rw [if_neg (by omega)]; exact hco.2.2.2.2 j hj h10)
  have hR0 := hR.far hk hC (by simp)
  refine hJ 1 _ _ rfl _ _ _ _ (x_iload rfl (x_aload rfl (w_getr W0 1 0 (t := i) (by decide) shp_40 rfl rfl hc.1 (w_geti W0 0 4 hC.lt hC.sh rfl rfl (x_br2 (fun b1 => have b1 := ge_y (hR0.n hV) (by omega) b1; hJ 3 _ _ rfl _ _ _ _ (x_aload rfl (x_iload rfl (w_puti W0 1 2 (by decide) shp_40 rfl rfl (okI rfl) (fun h1 W1 => x_aload rfl (x_dupr (w_geti W1 1 1 (by decide) shp_40 rfl rfl (x_sipush (x_iadd (w_puti W1 1 1 (by decide) shp_40 rfl rfl (okI rfl) (fun h2 W2 => x_iload rfl (x_iret (nrwI _) ?_)))))))))))) (fun b1 => have b1 := ge_n (hR0.n hV) (by omega) b1; x_aload rfl (w_getr W0 1 0 (t := i) (by decide) shp_40 rfl rfl hc.1 (w_getr W0 0 10 (t := i + 1) hC.lt hC.sh rfl rfl (hC.rf1 _) (x_iload rfl (w_iald W0 _ hC.lt1 hC.sh1 rfl (by omega) (by decide) (x_sipush (x_br2 (fun b2 => have b2 := cy_ne b2; hJ 2 _ _ rfl _ _ _ _ (x_iinc rfl rfl (x_goto (?_)))) (fun b2 => have b2 := cn_ne b2; x_aload rfl (w_getr W0 1 5 (t := 41) (by decide) shp_40 rfl rfl rfl (x_iload rfl (x_dup2 (w_iald W0 _ (by decide) shp_41 rfl (by omega) (by decide) (x_aload rfl (w_getr W0 1 0 (t := i) (by decide) shp_40 rfl rfl hc.1 (x_iload rfl (x_iload rfl (x_sipush (x_iload rfl (x_shl1 (by omega) (x_ior (x_cv rfl (Nat.le_of_ble_eq_true rfl) (isO_W W0 hC.lt hC.sh) (c_payOf W0 hC hR0 hV (hs.or (sok.b1 hn b1)) rfl b1 (xk_go (x_iadd (w_iast W0 _ (by decide) shp_41 rfl (by omega) (by decide) (fun h3 W3 => x_goto (hJ 2 _ _ rfl _ _ _ _ (x_iinc rfl rfl (x_goto (?_)))))))))))))))))))))))))))))))))))
  · have e : m = nm V := by omega
    subst e
    refine kk h2 _ W2 ((hk.trans (kp_sn (by simp))).trans (kp_sn (by simp))) ⟨hc.1, ?_, ?_, hc.2.2.2, fun j hj h10 => ?_⟩
    · show wn w0 40 1 + kI 1 = _
      rw [hc.2.1, kN_succ]
      rfl
    · rw [last_go]
      rfl
    · show wa w0 41 j = _
      rw [hf j hj h10, if_pos hj]
  · rw [(hR0.2.1 m b1).1] at b2
    refine J_c (ih b1 h0 _ W0 hk hc (fun j hj h10 => ?_)) ?_
    · have hjm : j ≠ m := fun z => b2 (z ▸ h10)
      rw [hf j hj h10]
      by_cases h : j < m
      · rw [if_pos h, if_pos (by omega)]
      · rw [if_neg h, if_neg (by omega)]
    · simp only [sI, kN_succ]
  · rw [(hR0.2.1 m b1).1] at b2
    refine J_c (ih b1 h3 _ W3 (hk.trans (kp_sa (by simp))) hc (fun j hj h10 => ?_)) ?_
    · rw [wa_self]
      by_cases hjm : j = m
      · subst hjm
        rw [upd_self, if_pos (by omega), hf j hj h10, if_neg (by omega), lrn_go]
      · rw [upd_ne hjm, hf j hj h10]
        by_cases h : j < m
        · rw [if_pos h, if_pos (by omega)]
        · rw [if_neg h, if_neg (by omega)]
    · simp only [sI, kN_succ]
def metF (V : VT) (p : PT) (k : Nat) (c : Int32) : Int32 := c + bI (meetsV V (nextP V (runP V p k)))
def metV (V : VT) (n : Nat) : Int32 := fo (metF V (startP V)) (kI 0) n
def payF (V : VT) (m : Nat) (p : PT) (k : Nat) (c : Int32) : Int32 := c + payV V (nextP V (runP V p k)) m
def payAV (V : VT) (m n : Nat) : Int32 := fo (payF V m (startP V)) (kI 0) n
theorem c_meetings {x : Int32} {n : Nat} (W : WW ad w h) (hC : isC i) (hR : CR w i V) (hV : VOK V) (hx : x = kI (n : Int)) (hn9 : n ≤ 60) (kk : ∀ h' w', WW ad w' h' → kp [40, 41] w w' → P (.inl (some (.int (metV V n)))) h') : WP ga L xs (d + 6) 39 [.ref (ad 40), .ref (ad i), .int x] h P := by
  subst hx
  have hn := hV.n.2
  have hw := hV.w.2
  have hp := POK.start hV
  have hs9 : (startP V).2 = wk V := rfl
  refine WP.enter kX1_meetings (Nat.le_of_ble_eq_true rfl) (fun J hJ => ?_)
  have loop : ∀ m, m ≤ n → ∀ h' w', WW ad w' h' → kp [40, 41] w w' → CoR w' i V (runP V (startP V) m) false → J 1 [some (.ref (ad 40)), some (.ref (ad i)), some (.int (kI (n : Int))), some (.int (metV V m)), some (.int (kI (m : Int)))] [] h' (0, 0) := up_ind (fun m hm ih h0 w0 W0 hk hc => ?_)
  · refine hJ 0 _ _ rfl _ _ _ _ (x_aload rfl (x_aload rfl (x_cv rfl (Nat.le_of_ble_eq_true rfl) (isO_W W (by decide) shp_40) (c_start W hC hR hV (fun h1 w1 W1 e1 c1 d1 => xk_v (x_sipush (x_istore rfl (x_sipush (x_istore rfl (x_goto (?_)))))))))))
    exact loop 0 (Nat.zero_le _) _ _ W1 e1 c1
  have hR0 := hR.far hk hC (by simp)
  have hpm := hp.run hn m (by omega)
  have hlen := runP_len (V := V) (p := startP V) m
  refine hJ 1 _ _ rfl _ _ _ _ (x_iload rfl (x_iload rfl (x_br2 (fun b1 => have b1 := ge_y rfl (by omega) b1; hJ 4 _ _ rfl _ _ _ _ (x_iload rfl (x_iret (nrwI _) ?_))) (fun b1 => have b1 := ge_n rfl (by omega) b1; x_iload rfl (x_aload rfl (x_aload rfl (x_cv rfl (Nat.le_of_ble_eq_true rfl) (isO_W W0 (by decide) shp_40) (c_go W0 hC hR0 hV hc hpm (by omega) (fun h1 w1 W1 e1 c1 => xk_go (x_cv rfl (Nat.le_of_ble_eq_true rfl) (isO_W W1 hC.lt hC.sh) (c_meets W1 hC (hR0.far e1 hC (by simp)) (sok_next hn) (xk_go (x_br (fun b2 => have b2 := bI_eq0.mp b2; hJ 2 _ _ rfl _ _ _ _ (x_sipush (x_goto (hJ 3 _ _ rfl _ _ _ _ (x_iadd (x_istore rfl (x_iinc rfl rfl (x_goto (?_))))))))) (fun b2 => have b2 := bI_ne0.mp b2; x_sipush (x_goto (hJ 3 _ _ rfl _ _ _ _ (x_iadd (x_istore rfl (x_iinc rfl rfl (x_goto (?_)))))))))))))))))))))
  · have e : m = n := by omega
    subst e
    exact kk h0 _ W0 hk
  · refine J_c (ih b1 h1 _ W1 (hk.trans e1) c1) ?_
    simp only [sI, kN_succ]
    have e9 : metV V (m + 1) = metV V m + bI (meetsV V (nextP V (runP V (startP V) m))) := rfl
    rw [e9, b2]
    rfl
  · refine J_c (ih b1 h1 _ W1 (hk.trans e1) c1) ?_
    simp only [sI, kN_succ]
    have e9 : metV V (m + 1) = metV V m + bI (meetsV V (nextP V (runP V (startP V) m))) := rfl
    rw [e9, b2]
    rfl
theorem c_payAhead {x y : Int32} {n m0 : Nat} (W : WW ad w h) (hC : isC i) (hR : CR w i V) (hV : VOK V) (hx : x = kI (n : Int)) (hn9 : n ≤ 60) (hy : y = kI (m0 : Int)) (hm0 : m0 < nm V) (kk : ∀ h' w', WW ad w' h' → kp [40, 41] w w' → P (.inl (some (.int (payAV V m0 n)))) h') : WP ga L xs (d + 6) 40 [.ref (ad 40), .ref (ad i), .int y, .int x] h P := by
  subst hx hy
  have hn := hV.n.2
  have hw := hV.w.2
  have hp := POK.start hV
  have hs9 : (startP V).2 = wk V := rfl
  refine WP.enter kX1_payAhead (Nat.le_of_ble_eq_true rfl) (fun J hJ => ?_)
  have loop : ∀ m, m ≤ n → ∀ h' w', WW ad w' h' → kp [40, 41] w w' → CoR w' i V (runP V (startP V) m) false → J 1 [some (.ref (ad 40)), some (.ref (ad i)), some (.int (kI (m0 : Int))), some (.int (kI (n : Int))), some (.int (payAV V m0 m)), some (.int (kI (m : Int)))] [] h' (0, 0) := up_ind (fun m hm ih h0 w0 W0 hk hc => ?_)
  · refine hJ 0 _ _ rfl _ _ _ _ (x_aload rfl (x_aload rfl (x_cv rfl (Nat.le_of_ble_eq_true rfl) (isO_W W (by decide) shp_40) (c_start W hC hR hV (fun h1 w1 W1 e1 c1 d1 => xk_v (x_sipush (x_istore rfl (x_sipush (x_istore rfl (x_goto (?_)))))))))))
    exact loop 0 (Nat.zero_le _) _ _ W1 e1 c1
  have hR0 := hR.far hk hC (by simp)
  have hpm := hp.run hn m (by omega)
  have hlen := runP_len (V := V) (p := startP V) m
  refine hJ 1 _ _ rfl _ _ _ _ (x_iload rfl (x_iload rfl (x_br2 (fun b1 => have b1 := ge_y rfl (by omega) b1; hJ 2 _ _ rfl _ _ _ _ (x_iload rfl (x_iret (nrwI _) ?_))) (fun b1 => have b1 := ge_n rfl (by omega) b1; x_iload rfl (x_aload rfl (x_iload rfl (x_aload rfl (x_cv rfl (Nat.le_of_ble_eq_true rfl) (isO_W W0 (by decide) shp_40) (c_go W0 hC hR0 hV hc hpm (by omega) (fun h1 w1 W1 e1 c1 => xk_go (x_cv rfl (Nat.le_of_ble_eq_true rfl) (isO_W W1 hC.lt hC.sh) (c_payOf W1 hC (hR0.far e1 hC (by simp)) hV (sok_next hn) rfl hm0 (xk_go (x_iadd (x_istore rfl (x_iinc rfl rfl (x_goto (?_))))))))))))))))))
  · have e : m = n := by omega
    subst e
    exact kk h0 _ W0 hk
  · refine J_c (ih b1 h1 _ W1 (hk.trans e1) c1) ?_
    simp only [sI, kN_succ]
    rfl
end C1
end
section
/-! ===== counting by taking the lowest away ===== -/
set_option maxRecDepth 100000 in
theorem sz_all : ∀ a : Nat, a < 4096 → 0 < a → (kI (a : Int) &&& (kI (a : Int) - kI 1)) = kI ((a &&& (a - 1) : Nat) : Int) ∧ pc (kI ((a &&& (a - 1) : Nat) : Int)) + 1 = pc (kI (a : Int)) := by decide +kernel
end
section
/-! ===== the model: numbers ===== -/
theorem and_pred_lt {a : Nat} (h : 0 < a) : a &&& (a - 1) < a := Nat.lt_of_le_of_lt Nat.and_le_right (by omega)
theorem of_ix (m t : Nat) : kI 6 + kI 4 * kI (m : Int) + kI (t : Int) = kI ((6 + 4 * m + t : Nat) : Int) := by
  rw [kI_mul, kI_add, kI_add]
  congr 1
theorem came_ix (j : Nat) : kI 54 + kI (j : Int) = kI ((54 + j : Nat) : Int) := by
  rw [kI_add]
  congr 1
theorem toInt64_toInt (x : Int32) : x.toInt64.toInt = x.toInt := Int32.toInt_toInt64 x
def isMemV (V : VT) (x : Int32) : Bool := decide (0 ≤ x.toInt ∧ x.toInt < nm V)
def isSetV (V : VT) (x : Int32) : Bool := decide (0 ≤ x.toInt ∧ x.toInt < (2 ^ nm V : Nat))
def isWkV (V : VT) (x : Int32) : Bool := decide (0 ≤ x.toInt ∧ x.toInt < wk V)
def inV (x : Int32) (a b : Int) : Bool := decide (a ≤ x.toInt ∧ x.toInt ≤ b)
theorem i64_nat {n : Nat} (h : n < 2147483648) : (Int64.ofNat n).toInt = n := by
  rw [Int64.toInt_ofNat_of_lt (by omega)]
theorem lg_lt {x y : Int64} : lg_cmp x y < 0 ↔ x.toInt < y.toInt := by
  unfold lg_cmp
  simp only [gt_iff_lt, Int64.lt_iff_toInt_lt, ← Int64.toInt_inj]
  repeat' split
  · constructor
    · intro h; exact absurd h (by decide)
    · intro h; omega
  · constructor
    · intro h; exact absurd h (by decide)
    · intro h; omega
  · constructor
    · intro _; omega
    · intro _; decide
theorem lg_gt {x y : Int64} : 0 < lg_cmp x y ↔ y.toInt < x.toInt := by
  unfold lg_cmp
  simp only [gt_iff_lt, Int64.lt_iff_toInt_lt, ← Int64.toInt_inj]
  repeat' split
  · constructor
    · intro _; omega
    · intro _; decide
  · constructor
    · intro h; exact absurd h (by decide)
    · intro h; omega
  · constructor
    · intro h; exact absurd h (by decide)
    · intro h; omega
/-- the model's weeks -/
def PR (w : Wst) (p : PT) : Prop := wn w 80 17 = kI (p.2 : Int) ∧ ∀ j, j < p.2 → wa w 86 j = p.1 j
/-- fields of the model that are kept -/
def kf (l : List Nat) (w w' : Wst) : Prop := ∀ b, b ∉ l → wn w' 80 b = wn w 80 b
theorem kf_refl {l : List Nat} {w : Wst} : kf l w w := fun _ _ => rfl
theorem kf.trans {l : List Nat} {w w' w'' : Wst} (h : kf l w w') (g : kf l w' w'') : kf l w w'' := fun b hb => (g b hb).trans (h b hb)
theorem kf.mono {l l' : List Nat} {w w' : Wst} (h : kf l w w') (hl : ∀ a ∈ l, a ∈ l') : kf l' w w' := fun i hi => h i (fun z => hi (hl i z))
theorem kf_sn {l : List Nat} {w : Wst} {j : Nat} {x : Int32} (hj : j ∈ l) : kf l w (sn w 80 j x) := fun b hb => by
  rw [wn_sn]
  exact if_neg (fun (z : 80 = 80 ∧ b = j) => hb (z.2 ▸ hj))
theorem kf_so {l : List Nat} {w : Wst} {i j : Nat} {x : Int32} (hi : i ≠ 80) : kf l w (sn w i j x) := fun b _ => by
  rw [wn_sn]
  exact if_neg (fun (z : 80 = i ∧ b = j) => hi z.1.symm)
theorem kf_sa {l : List Nat} {w : Wst} {i : Nat} {f : Nat → Int32} : kf l w (sa w i f) := fun _ _ => rfl
theorem kf_sv {l : List Nat} {w : Wst} {i : Nat} {f : Nat → Int64} : kf l w (sv w i f) := fun _ _ => rfl
end
section
/-! ===== the model: reading ===== -/
section M1
variable {ga : Nat → Nat} {L : Nat} {xs : Nat → Int32} {d : Nat} {h : ac_H} {P : ac_P} {ad : Nat → Nat} {w : Wst} {V : VT}
theorem c7_within {x y z : Int64} (hP : P (.inl (some (.int (bI (decide (y.toInt ≤ x.toInt ∧ x.toInt ≤ z.toInt)))))) h) : WP ga L xs (d + 1) 140 [.long x, .long y, .long z] h P := by
  refine WP.enter kX7_within (Nat.le_of_ble_eq_true rfl) (fun J hJ => ?_)
  refine hJ 0 _ _ rfl _ _ _ _ (x_lload rfl (x_lload rfl (x_lcmp (x_br (fun b1 => have b1 := cy_lt b1; hJ 1 _ _ rfl _ _ _ _ (x_sipush (x_goto (hJ 2 _ _ rfl _ _ _ _ (x_iret (by first | exact nrwB _ | rfl | decide) ?_))))) (fun b1 => have b1 := cn_lt b1; x_lload rfl (x_lload rfl (x_lcmp (x_br (fun b2 => have b2 := cy_gt b2; hJ 1 _ _ rfl _ _ _ _ (x_sipush (x_goto (hJ 2 _ _ rfl _ _ _ _ (x_iret (by first | exact nrwB _ | rfl | decide) ?_))))) (fun b2 => have b2 := cn_gt b2; x_sipush (x_goto (hJ 2 _ _ rfl _ _ _ _ (x_iret (by first | exact nrwB _ | rfl | decide) ?_))))))))))))
  · rw [lg_lt] at b1
    rw [decide_eq_false (by omega)] at hP
    exact hP
  · rw [← Int32.not_lt, lg_lt] at b1
    rw [lg_gt] at b2
    rw [decide_eq_false (by omega)] at hP
    exact hP
  · rw [← Int32.not_lt, lg_lt] at b1
    rw [← Int32.not_lt, lg_gt] at b2
    rw [decide_eq_true (by omega)] at hP
    exact hP
theorem c7_has {m : Nat} {s x : Int32} (hx : x = kI (m : Int)) (hm : m < 32) (hP : P (.inl (some (.int (bI (hb s m))))) h) : WP ga L xs (d + 1) 141 [.int s, .int x] h P := by
  subst hx
  refine WP.enter kX7_has (Nat.le_of_ble_eq_true rfl) (fun J hJ => ?_)
  refine hJ 0 _ _ rfl _ _ _ _ (x_iload rfl (x_iload rfl (x_ishr (x_sipush (x_iand (x_sipush (x_br2 (fun b1 => have b1 := cy_ne b1; hJ 1 _ _ rfl _ _ _ _ (x_sipush (x_goto (hJ 2 _ _ rfl _ _ _ _ (x_iret (by first | exact nrwB _ | rfl | decide) ?_))))) (fun b1 => have b1 := cn_ne b1; x_sipush (x_goto (hJ 2 _ _ rfl _ _ _ _ (x_iret (by first | exact nrwB _ | rfl | decide) ?_)))))))))))
  · rw [shr_and1 hm] at b1
    have e : hb s m = false := by
      cases h9 : hb s m
      · rfl
      · rw [h9] at b1
        exact absurd rfl b1
    rw [e] at hP
    exact hP
  · rw [shr_and1 hm] at b1
    have e : hb s m = true := by
      cases h9 : hb s m
      · rw [h9] at b1
        exact absurd b1 (by decide)
      · rfl
    rw [e] at hP
    exact hP
theorem c7_size {n : Nat} {s : Int32} (hs : sok n s) (hP : P (.inl (some (.int (kI (pc s : Int))))) h) : WP ga L xs (d + 1) 142 [.int s] h P := by
  obtain ⟨a, ha, rfl⟩ := sok12 hs
  refine WP.enter kX7_size (Nat.le_of_ble_eq_true rfl) (fun J hJ => ?_)
  have loop : ∀ a9 : Nat, a9 < 4096 → ∀ c : Nat, c + pc (kI (a9 : Int)) = pc (kI (a : Int)) → J 1 [some (.int (kI (a : Int))), some (.int (kI (c : Int))), some (.int (kI (a9 : Int)))] [] h (0, 0) := by
    intro a9
    induction a9 using Nat.strongRecOn with
    | _ a9 ih =>
      intro ha9 c hc
      refine hJ 1 _ _ rfl _ _ _ _ (x_iload rfl (x_br (fun b1 => have b1 := cy_eq b1; hJ 2 _ _ rfl _ _ _ _ (x_iload rfl (x_iret (nrwI _) ?_))) (fun b1 => have b1 := cn_eq b1; x_iinc rfl rfl (x_iload rfl (x_iload rfl (x_sipush (x_isub (x_iand (x_istore rfl (x_goto (?_)))))))))))
      · rw [kN_eq0 (by omega)] at b1
        subst b1
        have : pc (kI ((0 : Nat) : Int)) = 0 := by decide
        rw [← hc, this] at hP
        exact hP
      · rw [kN_eq0 (by omega)] at b1
        obtain ⟨e1, e2⟩ := sz_all a9 ha9 (by omega)
        have e3 := and_pred_lt (a := a9) (by omega)
        refine J_c (ih _ e3 (by omega) (c + 1) (by omega)) ?_
        simp only [sI, kN_succ, e1]
  refine hJ 0 _ _ rfl _ _ _ _ (x_sipush (x_istore rfl (x_iload rfl (x_istore rfl (x_goto (?_))))))
  exact loop a ha 0 (by omega)
theorem c7_many (W : WW ad w h) (hK : wa w 81 = V) (hV : VOK V) (hP : P (.inl (some (.int (kI (nm V : Int))))) h) : WP ga L xs (d + 1) 159 [.ref (ad 80)] h P := by
  rw [← hV.n.1, ← hK] at hP
  refine WP.enter kX7_many (Nat.le_of_ble_eq_true rfl) (fun J hJ => ?_)
  exact hJ 0 _ _ rfl _ _ _ _ (x_aload rfl (w_getr W 7 0 (t := 81) (by decide) shp_80 rfl rfl rfl (x_sipush (w_iald W 4 (by decide) shp_81 rfl (by decide) (by decide) (x_iret (nrwI _) hP)))))
theorem c7_of {m t : Nat} {x y : Int32} (W : WW ad w h) (hK : wa w 81 = V) (hx : x = kI (m : Int)) (hy : y = kI (t : Int)) (hm : m < 12) (ht : t < 4) (hP : P (.inl (some (.int (V (6 + 4 * m + t))))) h) : WP ga L xs (d + 1) 163 [.ref (ad 80), .int x, .int y] h P := by
  subst hx hy
  rw [← hK] at hP
  refine WP.enter kX7_of (Nat.le_of_ble_eq_true rfl) (fun J hJ => ?_)
  exact hJ 0 _ _ rfl _ _ _ _ (x_aload rfl (w_getr W 7 0 (t := 81) (by decide) shp_80 rfl rfl rfl (x_sipush (x_sipush (x_iload rfl (x_imul (x_iadd (x_iload rfl (x_iadd (w_iald W (6 + 4 * m + t) (by decide) shp_81 (of_ix m t) (by omega) (by decide) (x_iret (nrwI _) hP)))))))))))
theorem c7_all (W : WW ad w h) (hK : wa w 81 = V) (hV : VOK V) (hP : P (.inl (some (.int (everyV V)))) h) : WP ga L xs (d + 2) 160 [.ref (ad 80)] h P := by
  have hn := hV.n.2
  refine WP.enter kX7_all (Nat.le_of_ble_eq_true rfl) (fun J hJ => ?_)
  exact hJ 0 _ _ rfl _ _ _ _ (x_sipush (x_aload rfl (x_cv rfl (Nat.le_of_ble_eq_true rfl) (isO_W W (by decide) shp_80) (c7_many W hK hV (xk_go (x_shl1 (by omega) (x_sipush (x_isub (x_iret (nrwI _) hP)))))))))
theorem every_toInt {V : VT} (hV : VOK V) : everyV V = kI ((2 ^ nm V - 1 : Nat) : Int) := by
  have key : ∀ n, n < 13 → b1 n - kI 1 = kI ((2 ^ n - 1 : Nat) : Int) := by decide +kernel
  exact key _ (by have := hV.n.2; omega)
theorem c7_isMember {x : Int32} (W : WW ad w h) (hK : wa w 81 = V) (hV : VOK V) (hP : P (.inl (some (.int (bI (isMemV V x))))) h) : WP ga L xs (d + 2) 161 [.ref (ad 80), .int x] h P := by
  have hn := hV.n.2
  have e : isMemV V x = decide ((Int64.ofNat 0).toInt ≤ x.toInt64.toInt ∧ x.toInt64.toInt ≤ ((kI (nm V : Int) - kI 1).toInt64).toInt) := by
    rw [toInt64_toInt, toInt64_toInt, i64_nat (by omega), kI_sub, kI_toInt (by omega) (by omega)]
    unfold isMemV
    rw [decide_eq_decide]
    omega
  rw [e] at hP
  refine WP.enter kX7_isMember (Nat.le_of_ble_eq_true rfl) (fun J hJ => ?_)
  exact hJ 0 _ _ rfl _ _ _ _ (x_iload rfl (x_i2l (x_ldc2 (x_aload rfl (x_cv rfl (Nat.le_of_ble_eq_true rfl) (isO_W W (by decide) shp_80) (c7_many W hK hV (xk_go (x_sipush (x_isub (x_i2l (x_cs rfl (Nat.le_of_ble_eq_true rfl) (c7_within (xk_go (x_iret (by first | exact nrwB _ | rfl | decide) hP))))))))))))))
theorem c7_isSet {x : Int32} (W : WW ad w h) (hK : wa w 81 = V) (hV : VOK V) (hP : P (.inl (some (.int (bI (isSetV V x))))) h) : WP ga L xs (d + 3) 162 [.ref (ad 80), .int x] h P := by
  have hn := hV.n.2
  have h2 : 2 ^ nm V ≤ 2 ^ 12 := Nat.pow_le_pow_right (by decide) hn
  have h3 : 0 < 2 ^ nm V := Nat.pow_pos (by decide)
  have e : isSetV V x = decide ((Int64.ofNat 0).toInt ≤ x.toInt64.toInt ∧ x.toInt64.toInt ≤ ((everyV V).toInt64).toInt) := by
    rw [toInt64_toInt, toInt64_toInt, i64_nat (by omega), every_toInt hV, kI_toInt (by omega) (by omega)]
    unfold isSetV
    rw [decide_eq_decide]
    omega
  rw [e] at hP
  refine WP.enter kX7_isSet (Nat.le_of_ble_eq_true rfl) (fun J hJ => ?_)
  exact hJ 0 _ _ rfl _ _ _ _ (x_iload rfl (x_i2l (x_ldc2 (x_aload rfl (x_cv rfl (Nat.le_of_ble_eq_true rfl) (isO_W W (by decide) shp_80) (c7_all W hK hV (xk_go (x_i2l (x_cs rfl (Nat.le_of_ble_eq_true rfl) (c7_within (xk_go (x_iret (by first | exact nrwB _ | rfl | decide) hP))))))))))))
theorem c7_meets {n : Nat} {s : Int32} (W : WW ad w h) (hK : wa w 81 = V) (hs : sok n s) (hP : P (.inl (some (.int (bI (meetsV V s))))) h) : WP ga L xs (d + 2) 164 [.ref (ad 80), .int s] h P := by
  refine WP.enter kX7_meets (Nat.le_of_ble_eq_true rfl) (fun J hJ => ?_)
  refine hJ 0 _ _ rfl _ _ _ _ (x_iload rfl (x_cs rfl (Nat.le_of_ble_eq_true rfl) (c7_size hs (xk_go (x_aload rfl (w_getr W 7 0 (t := 81) (by decide) shp_80 rfl rfl rfl (x_sipush (w_iald W 1 (by decide) shp_81 rfl (by decide) (by decide) (x_br2 (fun b1 => have b1 := cy_ne b1; hJ 1 _ _ rfl _ _ _ _ (x_sipush (x_goto (hJ 2 _ _ rfl _ _ _ _ (x_iret (by first | exact nrwB _ | rfl | decide) ?_))))) (fun b1 => have b1 := cn_ne b1; x_sipush (x_goto (hJ 2 _ _ rfl _ _ _ _ (x_iret (by first | exact nrwB _ | rfl | decide) ?_)))))))))))))
  · rw [hK] at b1
    rw [show meetsV V s = false from decide_eq_false b1] at hP
    exact hP
  · rw [hK] at b1
    rw [show meetsV V s = true from decide_eq_true b1] at hP
    exact hP
theorem c7_payOf {n m : Nat} {s x : Int32} (W : WW ad w h) (hK : wa w 81 = V) (hs : sok n s) (hx : x = kI (m : Int)) (hm : m < 12) (hP : P (.inl (some (.int (payV V s m)))) h) : WP ga L xs (d + 3) 165 [.ref (ad 80), .int s, .int x] h P := by
  subst hx
  have e8 : V (6 + 4 * m + 2) = vC V m := by unfold vC; congr 1; omega
  unfold payV at hP
  refine WP.enter kX7_payOf (Nat.le_of_ble_eq_true rfl) (fun J hJ => ?_)
  refine hJ 0 _ _ rfl _ _ _ _ (x_iload rfl (x_iload rfl (x_cs rfl (Nat.le_of_ble_eq_true rfl) (c7_has rfl (by omega) (xk_go (x_br (fun b1 => have b1 := bI_eq0.mp b1; hJ 3 _ _ rfl _ _ _ _ (x_sipush (x_goto (hJ 4 _ _ rfl _ _ _ _ (x_iret (nrwI _) ?_))))) (fun b1 => have b1 := bI_ne0.mp b1; x_aload rfl (x_iload rfl (x_cv rfl (Nat.le_of_ble_eq_true rfl) (isO_W W (by decide) shp_80) (c7_meets W hK hs (xk_go (x_br (fun b2 => have b2 := bI_eq0.mp b2; hJ 1 _ _ rfl _ _ _ _ (x_sipush (x_goto (hJ 2 _ _ rfl _ _ _ _ (x_aload rfl (x_iload rfl (x_sipush (x_cv rfl (Nat.le_of_ble_eq_true rfl) (isO_W W (by decide) shp_80) (c7_of W hK rfl rfl (by omega) (by decide) (xk_go (x_isub (x_goto (hJ 4 _ _ rfl _ _ _ _ (x_iret (nrwI _) ?_)))))))))))))) (fun b2 => have b2 := bI_ne0.mp b2; x_aload rfl (w_getr W 7 0 (t := 81) (by decide) shp_80 rfl rfl rfl (x_sipush (w_iald W 2 (by decide) shp_81 rfl (by decide) (by decide) (x_goto (hJ 2 _ _ rfl _ _ _ _ (x_aload rfl (x_iload rfl (x_sipush (x_cv rfl (Nat.le_of_ble_eq_true rfl) (isO_W W (by decide) shp_80) (c7_of W hK rfl rfl (by omega) (by decide) (xk_go (x_isub (x_goto (hJ 4 _ _ rfl _ _ _ _ (x_iret (nrwI _) ?_))))))))))))))))))))))))))))
  · rw [if_neg (by rw [b1]; decide)] at hP
    exact hP
  · rw [if_pos b1, if_neg (by rw [b2]; decide)] at hP
    rw [e8]
    exact hP
  · rw [if_pos b1, if_pos b2] at hP
    rw [e8, hK]
    exact hP

end M1
end
