section
-- ===== PART A: goes FIRST, ahead of the names: the tables' words, and 'selects' of the private methods out of them =====
/-- a private method of a class that the tables say can be made, by its rows of tables_1 -/
def lw_okq (q : MethodName × Nat) : Prop := (q.1.cls ≠ "java/lang/invoke/MethodHandle" ∧ q.1.cls ≠ "java/lang/invoke/VarHandle") ∧ Cond.instantiable q.1.cls q.2 ∈ tables_1 ∧ Cond.privateMethod q.1 ∈ tables_1 ∧ Cond.instanceMethod q.1 ∈ tables_1
theorem lw_p0 : lw_okq (⟨"ForwardingTable$Tape", "step", "()V"⟩, 7) := ⟨⟨by decide +kernel, by decide +kernel⟩, List.mem_of_getElem? (i := 142) (by decide +kernel), List.mem_of_getElem? (i := 425) (by decide +kernel), List.mem_of_getElem? (i := 426) (by decide +kernel)⟩
theorem lw_p1 : lw_okq (⟨"ForwardingTable$Tape", "stepOverWord", "()V"⟩, 7) := ⟨⟨by decide +kernel, by decide +kernel⟩, List.mem_of_getElem? (i := 142) (by decide +kernel), List.mem_of_getElem? (i := 432) (by decide +kernel), List.mem_of_getElem? (i := 433) (by decide +kernel)⟩
theorem lw_p2 : lw_okq (⟨"ForwardingTable$Tape", "spells", "(Ljava/lang/String;)Z"⟩, 7) := ⟨⟨by decide +kernel, by decide +kernel⟩, List.mem_of_getElem? (i := 142) (by decide +kernel), List.mem_of_getElem? (i := 437) (by decide +kernel), List.mem_of_getElem? (i := 438) (by decide +kernel)⟩
theorem lw_p3 : lw_okq (⟨"ForwardingTable$Tape", "stepOverNumber", "()V"⟩, 7) := ⟨⟨by decide +kernel, by decide +kernel⟩, List.mem_of_getElem? (i := 142) (by decide +kernel), List.mem_of_getElem? (i := 496) (by decide +kernel), List.mem_of_getElem? (i := 497) (by decide +kernel)⟩
theorem lw_p4 : lw_okq (⟨"ForwardingTable$Tape", "take", "(I)Z"⟩, 7) := ⟨⟨by decide +kernel, by decide +kernel⟩, List.mem_of_getElem? (i := 142) (by decide +kernel), List.mem_of_getElem? (i := 500) (by decide +kernel), List.mem_of_getElem? (i := 501) (by decide +kernel)⟩
theorem lw_p5 : lw_okq (⟨"ForwardingTable$Tape", "isNumber", "(II)Z"⟩, 7) := ⟨⟨by decide +kernel, by decide +kernel⟩, List.mem_of_getElem? (i := 142) (by decide +kernel), List.mem_of_getElem? (i := 504) (by decide +kernel), List.mem_of_getElem? (i := 505) (by decide +kernel)⟩
theorem lw_p6 : lw_okq (⟨"ForwardingTable$Tape", "readRoute", "(LForwardingTable$PrefixSet;)Z"⟩, 7) := ⟨⟨by decide +kernel, by decide +kernel⟩, List.mem_of_getElem? (i := 142) (by decide +kernel), List.mem_of_getElem? (i := 508) (by decide +kernel), List.mem_of_getElem? (i := 509) (by decide +kernel)⟩
theorem lw_p7 : lw_okq (⟨"ForwardingTable$Tape", "readAddress", "()Z"⟩, 7) := ⟨⟨by decide +kernel, by decide +kernel⟩, List.mem_of_getElem? (i := 142) (by decide +kernel), List.mem_of_getElem? (i := 512) (by decide +kernel), List.mem_of_getElem? (i := 513) (by decide +kernel)⟩
theorem lw_p8 : lw_okq (⟨"ForwardingTable$PrefixSet", "placeOf", "(J)I"⟩, 3) := ⟨⟨by decide +kernel, by decide +kernel⟩, List.mem_of_getElem? (i := 34) (by decide +kernel), List.mem_of_getElem? (i := 527) (by decide +kernel), List.mem_of_getElem? (i := 528) (by decide +kernel)⟩
theorem lw_p9 : lw_okq (⟨"ForwardingTable$Tape", "readSeen", "(LForwardingTable$TrafficLog;)Z"⟩, 7) := ⟨⟨by decide +kernel, by decide +kernel⟩, List.mem_of_getElem? (i := 142) (by decide +kernel), List.mem_of_getElem? (i := 538) (by decide +kernel), List.mem_of_getElem? (i := 539) (by decide +kernel)⟩
theorem lw_p10 : lw_okq (⟨"ForwardingTable$TrafficLog", "rarest", "()I"⟩, 3) := ⟨⟨by decide +kernel, by decide +kernel⟩, List.mem_of_getElem? (i := 71) (by decide +kernel), List.mem_of_getElem? (i := 555) (by decide +kernel), List.mem_of_getElem? (i := 556) (by decide +kernel)⟩
theorem lw_p11 : lw_okq (⟨"ForwardingTable$TrafficLog", "removeAt", "(I)V"⟩, 3) := ⟨⟨by decide +kernel, by decide +kernel⟩, List.mem_of_getElem? (i := 71) (by decide +kernel), List.mem_of_getElem? (i := 559) (by decide +kernel), List.mem_of_getElem? (i := 560) (by decide +kernel)⟩
theorem lw_p12 : lw_okq (⟨"ForwardingTable", "unsettle", "(I)V"⟩, 16) := ⟨⟨by decide +kernel, by decide +kernel⟩, List.mem_of_getElem? (i := 20) (by decide +kernel), List.mem_of_getElem? (i := 582) (by decide +kernel), List.mem_of_getElem? (i := 583) (by decide +kernel)⟩
theorem lw_p13 : lw_okq (⟨"ForwardingTable", "settle", "(I)V"⟩, 16) := ⟨⟨by decide +kernel, by decide +kernel⟩, List.mem_of_getElem? (i := 20) (by decide +kernel), List.mem_of_getElem? (i := 638) (by decide +kernel), List.mem_of_getElem? (i := 639) (by decide +kernel)⟩
theorem lw_p14 : lw_okq (⟨"ForwardingTable$Cover", "leaveUpTo", "(JLForwardingTable$PrefixSet;)V"⟩, 10) := ⟨⟨by decide +kernel, by decide +kernel⟩, List.mem_of_getElem? (i := 173) (by decide +kernel), List.mem_of_getElem? (i := 647) (by decide +kernel), List.mem_of_getElem? (i := 648) (by decide +kernel)⟩
theorem lw_p15 : lw_okq (⟨"ForwardingTable$Cover", "walkTo", "(JLForwardingTable$PrefixSet;)V"⟩, 10) := ⟨⟨by decide +kernel, by decide +kernel⟩, List.mem_of_getElem? (i := 173) (by decide +kernel), List.mem_of_getElem? (i := 654) (by decide +kernel), List.mem_of_getElem? (i := 655) (by decide +kernel)⟩
def lw_privs_1 : List (MethodName × Nat) := [(⟨"ForwardingTable$Tape", "step", "()V"⟩, 7), (⟨"ForwardingTable$Tape", "stepOverWord", "()V"⟩, 7), (⟨"ForwardingTable$Tape", "spells", "(Ljava/lang/String;)Z"⟩, 7), (⟨"ForwardingTable$Tape", "stepOverNumber", "()V"⟩, 7), (⟨"ForwardingTable$Tape", "take", "(I)Z"⟩, 7), (⟨"ForwardingTable$Tape", "isNumber", "(II)Z"⟩, 7), (⟨"ForwardingTable$Tape", "readRoute", "(LForwardingTable$PrefixSet;)Z"⟩, 7), (⟨"ForwardingTable$Tape", "readAddress", "()Z"⟩, 7), (⟨"ForwardingTable$PrefixSet", "placeOf", "(J)I"⟩, 3), (⟨"ForwardingTable$Tape", "readSeen", "(LForwardingTable$TrafficLog;)Z"⟩, 7), (⟨"ForwardingTable$TrafficLog", "rarest", "()I"⟩, 3), (⟨"ForwardingTable$TrafficLog", "removeAt", "(I)V"⟩, 3), (⟨"ForwardingTable", "unsettle", "(I)V"⟩, 16), (⟨"ForwardingTable", "settle", "(I)V"⟩, 16), (⟨"ForwardingTable$Cover", "leaveUpTo", "(JLForwardingTable$PrefixSet;)V"⟩, 10), (⟨"ForwardingTable$Cover", "walkTo", "(JLForwardingTable$PrefixSet;)V"⟩, 10)]
theorem lw_r1 : ∀ q ∈ lw_privs_1, lw_okq q := List.forall_mem_cons.mpr ⟨lw_p0, List.forall_mem_cons.mpr ⟨lw_p1, List.forall_mem_cons.mpr ⟨lw_p2, List.forall_mem_cons.mpr ⟨lw_p3, List.forall_mem_cons.mpr ⟨lw_p4, List.forall_mem_cons.mpr ⟨lw_p5, List.forall_mem_cons.mpr ⟨lw_p6, List.forall_mem_cons.mpr ⟨lw_p7, List.forall_mem_cons.mpr ⟨lw_p8, List.forall_mem_cons.mpr ⟨lw_p9, List.forall_mem_cons.mpr ⟨lw_p10, List.forall_mem_cons.mpr ⟨lw_p11, List.forall_mem_cons.mpr ⟨lw_p12, List.forall_mem_cons.mpr ⟨lw_p13, List.forall_mem_cons.mpr ⟨lw_p14, List.forall_mem_cons.mpr ⟨lw_p15, fun _ h => absurd h List.not_mem_nil⟩⟩⟩⟩⟩⟩⟩⟩⟩⟩⟩⟩⟩⟩⟩⟩
theorem lw_p16 : lw_okq (⟨"ForwardingTable$Cover", "innermost", "()I"⟩, 10) := ⟨⟨by decide +kernel, by decide +kernel⟩, List.mem_of_getElem? (i := 173) (by decide +kernel), List.mem_of_getElem? (i := 658) (by decide +kernel), List.mem_of_getElem? (i := 659) (by decide +kernel)⟩
theorem lw_p17 : lw_okq (⟨"ForwardingTable$Compressor", "addNode", "(JIIII)V"⟩, 11) := ⟨⟨by decide +kernel, by decide +kernel⟩, List.mem_of_getElem? (i := 218) (by decide +kernel), List.mem_of_getElem? (i := 671) (by decide +kernel), List.mem_of_getElem? (i := 672) (by decide +kernel)⟩
theorem lw_p18 : lw_okq (⟨"ForwardingTable$Compressor", "open", "(ILForwardingTable$PrefixSet;)V"⟩, 11) := ⟨⟨by decide +kernel, by decide +kernel⟩, List.mem_of_getElem? (i := 218) (by decide +kernel), List.mem_of_getElem? (i := 676) (by decide +kernel), List.mem_of_getElem? (i := 677) (by decide +kernel)⟩
theorem lw_p19 : lw_okq (⟨"ForwardingTable$Compressor", "gatherSets", "()V"⟩, 11) := ⟨⟨by decide +kernel, by decide +kernel⟩, List.mem_of_getElem? (i := 218) (by decide +kernel), List.mem_of_getElem? (i := 686) (by decide +kernel), List.mem_of_getElem? (i := 687) (by decide +kernel)⟩
theorem lw_p20 : lw_okq (⟨"ForwardingTable$Compressor", "setOf", "(I)I"⟩, 11) := ⟨⟨by decide +kernel, by decide +kernel⟩, List.mem_of_getElem? (i := 218) (by decide +kernel), List.mem_of_getElem? (i := 690) (by decide +kernel), List.mem_of_getElem? (i := 691) (by decide +kernel)⟩
theorem lw_p21 : lw_okq (⟨"ForwardingTable$Compressor", "handDown", "()I"⟩, 11) := ⟨⟨by decide +kernel, by decide +kernel⟩, List.mem_of_getElem? (i := 218) (by decide +kernel), List.mem_of_getElem? (i := 694) (by decide +kernel), List.mem_of_getElem? (i := 695) (by decide +kernel)⟩
theorem lw_p22 : lw_okq (⟨"ForwardingTable$Choice", "emptyRows", "(I)V"⟩, 9) := ⟨⟨by decide +kernel, by decide +kernel⟩, List.mem_of_getElem? (i := 261) (by decide +kernel), List.mem_of_getElem? (i := 723) (by decide +kernel), List.mem_of_getElem? (i := 724) (by decide +kernel)⟩
theorem lw_p23 : lw_okq (⟨"ForwardingTable$Choice", "weighOne", "(III)V"⟩, 9) := ⟨⟨by decide +kernel, by decide +kernel⟩, List.mem_of_getElem? (i := 261) (by decide +kernel), List.mem_of_getElem? (i := 728) (by decide +kernel), List.mem_of_getElem? (i := 729) (by decide +kernel)⟩
theorem lw_p24 : lw_okq (⟨"ForwardingTable$Choice", "join", "(III)V"⟩, 9) := ⟨⟨by decide +kernel, by decide +kernel⟩, List.mem_of_getElem? (i := 261) (by decide +kernel), List.mem_of_getElem? (i := 738) (by decide +kernel), List.mem_of_getElem? (i := 739) (by decide +kernel)⟩
theorem lw_p25 : lw_okq (⟨"ForwardingTable$SyncPlan", "add", "(IJII)V"⟩, 6) := ⟨⟨by decide +kernel, by decide +kernel⟩, List.mem_of_getElem? (i := 303) (by decide +kernel), List.mem_of_getElem? (i := 765) (by decide +kernel), List.mem_of_getElem? (i := 766) (by decide +kernel)⟩
theorem lw_p26 : lw_okq (⟨"ForwardingTable", "answerFor", "(J)I"⟩, 16) := ⟨⟨by decide +kernel, by decide +kernel⟩, List.mem_of_getElem? (i := 20) (by decide +kernel), List.mem_of_getElem? (i := 811) (by decide +kernel), List.mem_of_getElem? (i := 812) (by decide +kernel)⟩
theorem lw_p27 : lw_okq (⟨"ForwardingTable", "changesNoAnswer", "(I)Z"⟩, 16) := ⟨⟨by decide +kernel, by decide +kernel⟩, List.mem_of_getElem? (i := 20) (by decide +kernel), List.mem_of_getElem? (i := 970) (by decide +kernel), List.mem_of_getElem? (i := 971) (by decide +kernel)⟩
theorem lw_p28 : lw_okq (⟨"ForwardingTable", "entriesWithout", "(I)I"⟩, 16) := ⟨⟨by decide +kernel, by decide +kernel⟩, List.mem_of_getElem? (i := 20) (by decide +kernel), List.mem_of_getElem? (i := 986) (by decide +kernel), List.mem_of_getElem? (i := 987) (by decide +kernel)⟩
theorem lw_p29 : lw_okq (⟨"ForwardingTable", "writeReport", "(I)V"⟩, 16) := ⟨⟨by decide +kernel, by decide +kernel⟩, List.mem_of_getElem? (i := 20) (by decide +kernel), List.mem_of_getElem? (i := 1010) (by decide +kernel), List.mem_of_getElem? (i := 1011) (by decide +kernel)⟩
theorem lw_p30 : lw_okq (⟨"ForwardingTable$Report", "addAddress", "(J)V"⟩, 3) := ⟨⟨by decide +kernel, by decide +kernel⟩, List.mem_of_getElem? (i := 333) (by decide +kernel), List.mem_of_getElem? (i := 1019) (by decide +kernel), List.mem_of_getElem? (i := 1020) (by decide +kernel)⟩
theorem lw_p31 : lw_okq (⟨"ForwardingTable$Report", "addNumber", "(I)V"⟩, 3) := ⟨⟨by decide +kernel, by decide +kernel⟩, List.mem_of_getElem? (i := 333) (by decide +kernel), List.mem_of_getElem? (i := 1024) (by decide +kernel), List.mem_of_getElem? (i := 1025) (by decide +kernel)⟩
def lw_privs_2 : List (MethodName × Nat) := [(⟨"ForwardingTable$Cover", "innermost", "()I"⟩, 10), (⟨"ForwardingTable$Compressor", "addNode", "(JIIII)V"⟩, 11), (⟨"ForwardingTable$Compressor", "open", "(ILForwardingTable$PrefixSet;)V"⟩, 11), (⟨"ForwardingTable$Compressor", "gatherSets", "()V"⟩, 11), (⟨"ForwardingTable$Compressor", "setOf", "(I)I"⟩, 11), (⟨"ForwardingTable$Compressor", "handDown", "()I"⟩, 11), (⟨"ForwardingTable$Choice", "emptyRows", "(I)V"⟩, 9), (⟨"ForwardingTable$Choice", "weighOne", "(III)V"⟩, 9), (⟨"ForwardingTable$Choice", "join", "(III)V"⟩, 9), (⟨"ForwardingTable$SyncPlan", "add", "(IJII)V"⟩, 6), (⟨"ForwardingTable", "answerFor", "(J)I"⟩, 16), (⟨"ForwardingTable", "changesNoAnswer", "(I)Z"⟩, 16), (⟨"ForwardingTable", "entriesWithout", "(I)I"⟩, 16), (⟨"ForwardingTable", "writeReport", "(I)V"⟩, 16), (⟨"ForwardingTable$Report", "addAddress", "(J)V"⟩, 3), (⟨"ForwardingTable$Report", "addNumber", "(I)V"⟩, 3)]
theorem lw_r2 : ∀ q ∈ lw_privs_2, lw_okq q := List.forall_mem_cons.mpr ⟨lw_p16, List.forall_mem_cons.mpr ⟨lw_p17, List.forall_mem_cons.mpr ⟨lw_p18, List.forall_mem_cons.mpr ⟨lw_p19, List.forall_mem_cons.mpr ⟨lw_p20, List.forall_mem_cons.mpr ⟨lw_p21, List.forall_mem_cons.mpr ⟨lw_p22, List.forall_mem_cons.mpr ⟨lw_p23, List.forall_mem_cons.mpr ⟨lw_p24, List.forall_mem_cons.mpr ⟨lw_p25, List.forall_mem_cons.mpr ⟨lw_p26, List.forall_mem_cons.mpr ⟨lw_p27, List.forall_mem_cons.mpr ⟨lw_p28, List.forall_mem_cons.mpr ⟨lw_p29, List.forall_mem_cons.mpr ⟨lw_p30, List.forall_mem_cons.mpr ⟨lw_p31, fun _ h => absurd h List.not_mem_nil⟩⟩⟩⟩⟩⟩⟩⟩⟩⟩⟩⟩⟩⟩⟩⟩
theorem lw_p32 : lw_okq (⟨"ForwardingTable$Report", "addSign", "(I)V"⟩, 3) := ⟨⟨by decide +kernel, by decide +kernel⟩, List.mem_of_getElem? (i := 333) (by decide +kernel), List.mem_of_getElem? (i := 1029) (by decide +kernel), List.mem_of_getElem? (i := 1030) (by decide +kernel)⟩
theorem lw_p33 : lw_okq (⟨"ForwardingTableModel", "isRoute", "(I)Z"⟩, 45) := ⟨⟨by decide +kernel, by decide +kernel⟩, List.mem_of_getElem? (i := 1042) (by decide +kernel), List.mem_of_getElem? (i := 1204) (by decide +kernel), List.mem_of_getElem? (i := 1205) (by decide +kernel)⟩
theorem lw_p34 : lw_okq (⟨"ForwardingTableModel", "valueOf", "(I)I"⟩, 45) := ⟨⟨by decide +kernel, by decide +kernel⟩, List.mem_of_getElem? (i := 1042) (by decide +kernel), List.mem_of_getElem? (i := 1209) (by decide +kernel), List.mem_of_getElem? (i := 1210) (by decide +kernel)⟩
theorem lw_p35 : lw_okq (⟨"ForwardingTableModel", "lengthOf", "(I)I"⟩, 45) := ⟨⟨by decide +kernel, by decide +kernel⟩, List.mem_of_getElem? (i := 1042) (by decide +kernel), List.mem_of_getElem? (i := 1217) (by decide +kernel), List.mem_of_getElem? (i := 1218) (by decide +kernel)⟩
theorem lw_p36 : lw_okq (⟨"ForwardingTableModel", "hopOf", "(I)I"⟩, 45) := ⟨⟨by decide +kernel, by decide +kernel⟩, List.mem_of_getElem? (i := 1042) (by decide +kernel), List.mem_of_getElem? (i := 1221) (by decide +kernel), List.mem_of_getElem? (i := 1222) (by decide +kernel)⟩
theorem lw_p37 : lw_okq (⟨"ForwardingTableModel", "parentOf", "(I)I"⟩, 45) := ⟨⟨by decide +kernel, by decide +kernel⟩, List.mem_of_getElem? (i := 1042) (by decide +kernel), List.mem_of_getElem? (i := 1225) (by decide +kernel), List.mem_of_getElem? (i := 1226) (by decide +kernel)⟩
theorem lw_p38 : lw_okq (⟨"ForwardingTableModel", "longest", "(IIII)I"⟩, 45) := ⟨⟨by decide +kernel, by decide +kernel⟩, List.mem_of_getElem? (i := 1042) (by decide +kernel), List.mem_of_getElem? (i := 1229) (by decide +kernel), List.mem_of_getElem? (i := 1230) (by decide +kernel)⟩
theorem lw_p39 : lw_okq (⟨"ForwardingTableModel", "areaOf", "(III)J"⟩, 45) := ⟨⟨by decide +kernel, by decide +kernel⟩, List.mem_of_getElem? (i := 1042) (by decide +kernel), List.mem_of_getElem? (i := 1239) (by decide +kernel), List.mem_of_getElem? (i := 1240) (by decide +kernel)⟩
theorem lw_p40 : lw_okq (⟨"ForwardingTableModel", "answers", "(I)I"⟩, 45) := ⟨⟨by decide +kernel, by decide +kernel⟩, List.mem_of_getElem? (i := 1042) (by decide +kernel), List.mem_of_getElem? (i := 1250) (by decide +kernel), List.mem_of_getElem? (i := 1251) (by decide +kernel)⟩
theorem lw_p41 : lw_okq (⟨"ForwardingTableModel", "matches", "(I)I"⟩, 45) := ⟨⟨by decide +kernel, by decide +kernel⟩, List.mem_of_getElem? (i := 1042) (by decide +kernel), List.mem_of_getElem? (i := 1254) (by decide +kernel), List.mem_of_getElem? (i := 1255) (by decide +kernel)⟩
theorem lw_p42 : lw_okq (⟨"ForwardingTableModel", "placeOf", "(IIII)I"⟩, 45) := ⟨⟨by decide +kernel, by decide +kernel⟩, List.mem_of_getElem? (i := 1042) (by decide +kernel), List.mem_of_getElem? (i := 1271) (by decide +kernel), List.mem_of_getElem? (i := 1272) (by decide +kernel)⟩
theorem lw_p43 : lw_okq (⟨"ForwardingTableModel", "keepsPast", "()V"⟩, 45) := ⟨⟨by decide +kernel, by decide +kernel⟩, List.mem_of_getElem? (i := 1042) (by decide +kernel), List.mem_of_getElem? (i := 1275) (by decide +kernel), List.mem_of_getElem? (i := 1276) (by decide +kernel)⟩
theorem lw_p44 : lw_okq (⟨"ForwardingTableModel", "putsIn", "(IIIII)V"⟩, 45) := ⟨⟨by decide +kernel, by decide +kernel⟩, List.mem_of_getElem? (i := 1042) (by decide +kernel), List.mem_of_getElem? (i := 1279) (by decide +kernel), List.mem_of_getElem? (i := 1280) (by decide +kernel)⟩
theorem lw_p45 : lw_okq (⟨"ForwardingTableModel", "routeChanged", "(II)V"⟩, 45) := ⟨⟨by decide +kernel, by decide +kernel⟩, List.mem_of_getElem? (i := 1042) (by decide +kernel), List.mem_of_getElem? (i := 1286) (by decide +kernel), List.mem_of_getElem? (i := 1287) (by decide +kernel)⟩
theorem lw_p46 : lw_okq (⟨"ForwardingTableModel", "lengthIn", "(I)I"⟩, 45) := ⟨⟨by decide +kernel, by decide +kernel⟩, List.mem_of_getElem? (i := 1042) (by decide +kernel), List.mem_of_getElem? (i := 1290) (by decide +kernel), List.mem_of_getElem? (i := 1291) (by decide +kernel)⟩
theorem lw_p47 : lw_okq (⟨"ForwardingTableModel", "valueIn", "(I)I"⟩, 45) := ⟨⟨by decide +kernel, by decide +kernel⟩, List.mem_of_getElem? (i := 1042) (by decide +kernel), List.mem_of_getElem? (i := 1294) (by decide +kernel), List.mem_of_getElem? (i := 1295) (by decide +kernel)⟩
def lw_privs_3 : List (MethodName × Nat) := [(⟨"ForwardingTable$Report", "addSign", "(I)V"⟩, 3), (⟨"ForwardingTableModel", "isRoute", "(I)Z"⟩, 45), (⟨"ForwardingTableModel", "valueOf", "(I)I"⟩, 45), (⟨"ForwardingTableModel", "lengthOf", "(I)I"⟩, 45), (⟨"ForwardingTableModel", "hopOf", "(I)I"⟩, 45), (⟨"ForwardingTableModel", "parentOf", "(I)I"⟩, 45), (⟨"ForwardingTableModel", "longest", "(IIII)I"⟩, 45), (⟨"ForwardingTableModel", "areaOf", "(III)J"⟩, 45), (⟨"ForwardingTableModel", "answers", "(I)I"⟩, 45), (⟨"ForwardingTableModel", "matches", "(I)I"⟩, 45), (⟨"ForwardingTableModel", "placeOf", "(IIII)I"⟩, 45), (⟨"ForwardingTableModel", "keepsPast", "()V"⟩, 45), (⟨"ForwardingTableModel", "putsIn", "(IIIII)V"⟩, 45), (⟨"ForwardingTableModel", "routeChanged", "(II)V"⟩, 45), (⟨"ForwardingTableModel", "lengthIn", "(I)I"⟩, 45), (⟨"ForwardingTableModel", "valueIn", "(I)I"⟩, 45)]
theorem lw_r3 : ∀ q ∈ lw_privs_3, lw_okq q := List.forall_mem_cons.mpr ⟨lw_p32, List.forall_mem_cons.mpr ⟨lw_p33, List.forall_mem_cons.mpr ⟨lw_p34, List.forall_mem_cons.mpr ⟨lw_p35, List.forall_mem_cons.mpr ⟨lw_p36, List.forall_mem_cons.mpr ⟨lw_p37, List.forall_mem_cons.mpr ⟨lw_p38, List.forall_mem_cons.mpr ⟨lw_p39, List.forall_mem_cons.mpr ⟨lw_p40, List.forall_mem_cons.mpr ⟨lw_p41, List.forall_mem_cons.mpr ⟨lw_p42, List.forall_mem_cons.mpr ⟨lw_p43, List.forall_mem_cons.mpr ⟨lw_p44, List.forall_mem_cons.mpr ⟨lw_p45, List.forall_mem_cons.mpr ⟨lw_p46, List.forall_mem_cons.mpr ⟨lw_p47, fun _ h => absurd h List.not_mem_nil⟩⟩⟩⟩⟩⟩⟩⟩⟩⟩⟩⟩⟩⟩⟩⟩
theorem lw_p48 : lw_okq (⟨"ForwardingTableModel", "takesHardware", "(I)V"⟩, 45) := ⟨⟨by decide +kernel, by decide +kernel⟩, List.mem_of_getElem? (i := 1042) (by decide +kernel), List.mem_of_getElem? (i := 1298) (by decide +kernel), List.mem_of_getElem? (i := 1299) (by decide +kernel)⟩
theorem lw_p49 : lw_okq (⟨"ForwardingTableModel", "takesOut", "(III)V"⟩, 45) := ⟨⟨by decide +kernel, by decide +kernel⟩, List.mem_of_getElem? (i := 1042) (by decide +kernel), List.mem_of_getElem? (i := 1302) (by decide +kernel), List.mem_of_getElem? (i := 1303) (by decide +kernel)⟩
theorem lw_p50 : lw_okq (⟨"ForwardingTableModel", "putsHardware", "(III)V"⟩, 45) := ⟨⟨by decide +kernel, by decide +kernel⟩, List.mem_of_getElem? (i := 1042) (by decide +kernel), List.mem_of_getElem? (i := 1306) (by decide +kernel), List.mem_of_getElem? (i := 1307) (by decide +kernel)⟩
theorem lw_p51 : lw_okq (⟨"ForwardingTableModel", "clears", "()V"⟩, 45) := ⟨⟨by decide +kernel, by decide +kernel⟩, List.mem_of_getElem? (i := 1042) (by decide +kernel), List.mem_of_getElem? (i := 1310) (by decide +kernel), List.mem_of_getElem? (i := 1311) (by decide +kernel)⟩
theorem lw_p52 : lw_okq (⟨"ForwardingTableModel", "logs", "(II)V"⟩, 45) := ⟨⟨by decide +kernel, by decide +kernel⟩, List.mem_of_getElem? (i := 1042) (by decide +kernel), List.mem_of_getElem? (i := 1328) (by decide +kernel), List.mem_of_getElem? (i := 1329) (by decide +kernel)⟩
theorem lw_p53 : lw_okq (⟨"ForwardingTableModel", "seenAt", "(I)I"⟩, 45) := ⟨⟨by decide +kernel, by decide +kernel⟩, List.mem_of_getElem? (i := 1042) (by decide +kernel), List.mem_of_getElem? (i := 1332) (by decide +kernel), List.mem_of_getElem? (i := 1333) (by decide +kernel)⟩
theorem lw_p54 : lw_okq (⟨"ForwardingTableModel", "timesAt", "(I)I"⟩, 45) := ⟨⟨by decide +kernel, by decide +kernel⟩, List.mem_of_getElem? (i := 1042) (by decide +kernel), List.mem_of_getElem? (i := 1336) (by decide +kernel), List.mem_of_getElem? (i := 1337) (by decide +kernel)⟩
theorem lw_p55 : lw_okq (⟨"ForwardingTableModel", "rarest", "()I"⟩, 45) := ⟨⟨by decide +kernel, by decide +kernel⟩, List.mem_of_getElem? (i := 1042) (by decide +kernel), List.mem_of_getElem? (i := 1341) (by decide +kernel), List.mem_of_getElem? (i := 1342) (by decide +kernel)⟩
theorem lw_p56 : lw_okq (⟨"ForwardingTableModel", "dropsSeen", "(I)V"⟩, 45) := ⟨⟨by decide +kernel, by decide +kernel⟩, List.mem_of_getElem? (i := 1042) (by decide +kernel), List.mem_of_getElem? (i := 1345) (by decide +kernel), List.mem_of_getElem? (i := 1346) (by decide +kernel)⟩
theorem lw_p57 : lw_okq (⟨"ForwardingTableModel", "isHard", "(I)Z"⟩, 45) := ⟨⟨by decide +kernel, by decide +kernel⟩, List.mem_of_getElem? (i := 1042) (by decide +kernel), List.mem_of_getElem? (i := 1349) (by decide +kernel), List.mem_of_getElem? (i := 1350) (by decide +kernel)⟩
theorem lw_p58 : lw_okq (⟨"ForwardingTableModel", "actionFor", "(I)I"⟩, 45) := ⟨⟨by decide +kernel, by decide +kernel⟩, List.mem_of_getElem? (i := 1042) (by decide +kernel), List.mem_of_getElem? (i := 1353) (by decide +kernel), List.mem_of_getElem? (i := 1354) (by decide +kernel)⟩
theorem lw_p59 : lw_okq (⟨"ForwardingTableModel", "actionIn", "(I)I"⟩, 45) := ⟨⟨by decide +kernel, by decide +kernel⟩, List.mem_of_getElem? (i := 1042) (by decide +kernel), List.mem_of_getElem? (i := 1357) (by decide +kernel), List.mem_of_getElem? (i := 1358) (by decide +kernel)⟩
theorem lw_p60 : lw_okq (⟨"ForwardingTableModel", "laysAll", "()V"⟩, 45) := ⟨⟨by decide +kernel, by decide +kernel⟩, List.mem_of_getElem? (i := 1042) (by decide +kernel), List.mem_of_getElem? (i := 1381) (by decide +kernel), List.mem_of_getElem? (i := 1382) (by decide +kernel)⟩
theorem lw_p61 : lw_okq (⟨"ForwardingTableModel", "laysEntries", "()V"⟩, 45) := ⟨⟨by decide +kernel, by decide +kernel⟩, List.mem_of_getElem? (i := 1042) (by decide +kernel), List.mem_of_getElem? (i := 1385) (by decide +kernel), List.mem_of_getElem? (i := 1386) (by decide +kernel)⟩
theorem lw_p62 : lw_okq (⟨"ForwardingTableModel", "laysParts", "()V"⟩, 45) := ⟨⟨by decide +kernel, by decide +kernel⟩, List.mem_of_getElem? (i := 1042) (by decide +kernel), List.mem_of_getElem? (i := 1389) (by decide +kernel), List.mem_of_getElem? (i := 1390) (by decide +kernel)⟩
theorem lw_p63 : lw_okq (⟨"ForwardingTableModel", "addsPart", "(II)V"⟩, 45) := ⟨⟨by decide +kernel, by decide +kernel⟩, List.mem_of_getElem? (i := 1042) (by decide +kernel), List.mem_of_getElem? (i := 1393) (by decide +kernel), List.mem_of_getElem? (i := 1394) (by decide +kernel)⟩
def lw_privs_4 : List (MethodName × Nat) := [(⟨"ForwardingTableModel", "takesHardware", "(I)V"⟩, 45), (⟨"ForwardingTableModel", "takesOut", "(III)V"⟩, 45), (⟨"ForwardingTableModel", "putsHardware", "(III)V"⟩, 45), (⟨"ForwardingTableModel", "clears", "()V"⟩, 45), (⟨"ForwardingTableModel", "logs", "(II)V"⟩, 45), (⟨"ForwardingTableModel", "seenAt", "(I)I"⟩, 45), (⟨"ForwardingTableModel", "timesAt", "(I)I"⟩, 45), (⟨"ForwardingTableModel", "rarest", "()I"⟩, 45), (⟨"ForwardingTableModel", "dropsSeen", "(I)V"⟩, 45), (⟨"ForwardingTableModel", "isHard", "(I)Z"⟩, 45), (⟨"ForwardingTableModel", "actionFor", "(I)I"⟩, 45), (⟨"ForwardingTableModel", "actionIn", "(I)I"⟩, 45), (⟨"ForwardingTableModel", "laysAll", "()V"⟩, 45), (⟨"ForwardingTableModel", "laysEntries", "()V"⟩, 45), (⟨"ForwardingTableModel", "laysParts", "()V"⟩, 45), (⟨"ForwardingTableModel", "addsPart", "(II)V"⟩, 45)]
theorem lw_r4 : ∀ q ∈ lw_privs_4, lw_okq q := List.forall_mem_cons.mpr ⟨lw_p48, List.forall_mem_cons.mpr ⟨lw_p49, List.forall_mem_cons.mpr ⟨lw_p50, List.forall_mem_cons.mpr ⟨lw_p51, List.forall_mem_cons.mpr ⟨lw_p52, List.forall_mem_cons.mpr ⟨lw_p53, List.forall_mem_cons.mpr ⟨lw_p54, List.forall_mem_cons.mpr ⟨lw_p55, List.forall_mem_cons.mpr ⟨lw_p56, List.forall_mem_cons.mpr ⟨lw_p57, List.forall_mem_cons.mpr ⟨lw_p58, List.forall_mem_cons.mpr ⟨lw_p59, List.forall_mem_cons.mpr ⟨lw_p60, List.forall_mem_cons.mpr ⟨lw_p61, List.forall_mem_cons.mpr ⟨lw_p62, List.forall_mem_cons.mpr ⟨lw_p63, fun _ h => absurd h List.not_mem_nil⟩⟩⟩⟩⟩⟩⟩⟩⟩⟩⟩⟩⟩⟩⟩⟩
theorem lw_p64 : lw_okq (⟨"ForwardingTableModel", "hasRoutes", "(II)Z"⟩, 45) := ⟨⟨by decide +kernel, by decide +kernel⟩, List.mem_of_getElem? (i := 1042) (by decide +kernel), List.mem_of_getElem? (i := 1397) (by decide +kernel), List.mem_of_getElem? (i := 1398) (by decide +kernel)⟩
theorem lw_p65 : lw_okq (⟨"ForwardingTableModel", "addsEntry", "(III)V"⟩, 45) := ⟨⟨by decide +kernel, by decide +kernel⟩, List.mem_of_getElem? (i := 1042) (by decide +kernel), List.mem_of_getElem? (i := 1404) (by decide +kernel), List.mem_of_getElem? (i := 1405) (by decide +kernel)⟩
theorem lw_p66 : lw_okq (⟨"ForwardingTableModel", "laysHits", "()V"⟩, 45) := ⟨⟨by decide +kernel, by decide +kernel⟩, List.mem_of_getElem? (i := 1042) (by decide +kernel), List.mem_of_getElem? (i := 1408) (by decide +kernel), List.mem_of_getElem? (i := 1409) (by decide +kernel)⟩
theorem lw_p67 : lw_okq (⟨"ForwardingTableModel", "entryFor", "(II)I"⟩, 45) := ⟨⟨by decide +kernel, by decide +kernel⟩, List.mem_of_getElem? (i := 1042) (by decide +kernel), List.mem_of_getElem? (i := 1412) (by decide +kernel), List.mem_of_getElem? (i := 1413) (by decide +kernel)⟩
theorem lw_p68 : lw_okq (⟨"ForwardingTableModel", "laysLost", "()V"⟩, 45) := ⟨⟨by decide +kernel, by decide +kernel⟩, List.mem_of_getElem? (i := 1042) (by decide +kernel), List.mem_of_getElem? (i := 1416) (by decide +kernel), List.mem_of_getElem? (i := 1417) (by decide +kernel)⟩
theorem lw_p69 : lw_okq (⟨"ForwardingTableModel", "startsLost", "()V"⟩, 45) := ⟨⟨by decide +kernel, by decide +kernel⟩, List.mem_of_getElem? (i := 1042) (by decide +kernel), List.mem_of_getElem? (i := 1420) (by decide +kernel), List.mem_of_getElem? (i := 1421) (by decide +kernel)⟩
theorem lw_p70 : lw_okq (⟨"ForwardingTableModel", "joins", "(II)V"⟩, 45) := ⟨⟨by decide +kernel, by decide +kernel⟩, List.mem_of_getElem? (i := 1042) (by decide +kernel), List.mem_of_getElem? (i := 1428) (by decide +kernel), List.mem_of_getElem? (i := 1429) (by decide +kernel)⟩
theorem lw_p71 : lw_okq (⟨"ForwardingTableModel", "under", "(III)I"⟩, 45) := ⟨⟨by decide +kernel, by decide +kernel⟩, List.mem_of_getElem? (i := 1042) (by decide +kernel), List.mem_of_getElem? (i := 1432) (by decide +kernel), List.mem_of_getElem? (i := 1433) (by decide +kernel)⟩
theorem lw_p72 : lw_okq (⟨"ForwardingTableModel", "lostBy", "(I)I"⟩, 45) := ⟨⟨by decide +kernel, by decide +kernel⟩, List.mem_of_getElem? (i := 1042) (by decide +kernel), List.mem_of_getElem? (i := 1436) (by decide +kernel), List.mem_of_getElem? (i := 1437) (by decide +kernel)⟩
theorem lw_p73 : lw_okq (⟨"ForwardingTableModel", "fewestPlaces", "()I"⟩, 45) := ⟨⟨by decide +kernel, by decide +kernel⟩, List.mem_of_getElem? (i := 1042) (by decide +kernel), List.mem_of_getElem? (i := 1440) (by decide +kernel), List.mem_of_getElem? (i := 1441) (by decide +kernel)⟩
theorem lw_p74 : lw_okq (⟨"ForwardingTableModel", "laysTarget", "()V"⟩, 45) := ⟨⟨by decide +kernel, by decide +kernel⟩, List.mem_of_getElem? (i := 1042) (by decide +kernel), List.mem_of_getElem? (i := 1461) (by decide +kernel), List.mem_of_getElem? (i := 1462) (by decide +kernel)⟩
theorem lw_p75 : lw_okq (⟨"ForwardingTableModel", "laysOpen", "()V"⟩, 45) := ⟨⟨by decide +kernel, by decide +kernel⟩, List.mem_of_getElem? (i := 1042) (by decide +kernel), List.mem_of_getElem? (i := 1483) (by decide +kernel), List.mem_of_getElem? (i := 1484) (by decide +kernel)⟩
theorem lw_p76 : lw_okq (⟨"ForwardingTableModel", "missedNow", "()I"⟩, 45) := ⟨⟨by decide +kernel, by decide +kernel⟩, List.mem_of_getElem? (i := 1042) (by decide +kernel), List.mem_of_getElem? (i := 1507) (by decide +kernel), List.mem_of_getElem? (i := 1508) (by decide +kernel)⟩
theorem lw_p77 : lw_okq (⟨"ForwardingTableModel", "laysAside", "()V"⟩, 45) := ⟨⟨by decide +kernel, by decide +kernel⟩, List.mem_of_getElem? (i := 1042) (by decide +kernel), List.mem_of_getElem? (i := 1515) (by decide +kernel), List.mem_of_getElem? (i := 1516) (by decide +kernel)⟩
theorem lw_p78 : lw_okq (⟨"ForwardingTableModel", "syncs", "(I)I"⟩, 45) := ⟨⟨by decide +kernel, by decide +kernel⟩, List.mem_of_getElem? (i := 1042) (by decide +kernel), List.mem_of_getElem? (i := 1519) (by decide +kernel), List.mem_of_getElem? (i := 1520) (by decide +kernel)⟩
theorem lw_p79 : lw_okq (⟨"ForwardingTableModel", "preparesSync", "()V"⟩, 45) := ⟨⟨by decide +kernel, by decide +kernel⟩, List.mem_of_getElem? (i := 1042) (by decide +kernel), List.mem_of_getElem? (i := 1523) (by decide +kernel), List.mem_of_getElem? (i := 1524) (by decide +kernel)⟩
def lw_privs_5 : List (MethodName × Nat) := [(⟨"ForwardingTableModel", "hasRoutes", "(II)Z"⟩, 45), (⟨"ForwardingTableModel", "addsEntry", "(III)V"⟩, 45), (⟨"ForwardingTableModel", "laysHits", "()V"⟩, 45), (⟨"ForwardingTableModel", "entryFor", "(II)I"⟩, 45), (⟨"ForwardingTableModel", "laysLost", "()V"⟩, 45), (⟨"ForwardingTableModel", "startsLost", "()V"⟩, 45), (⟨"ForwardingTableModel", "joins", "(II)V"⟩, 45), (⟨"ForwardingTableModel", "under", "(III)I"⟩, 45), (⟨"ForwardingTableModel", "lostBy", "(I)I"⟩, 45), (⟨"ForwardingTableModel", "fewestPlaces", "()I"⟩, 45), (⟨"ForwardingTableModel", "laysTarget", "()V"⟩, 45), (⟨"ForwardingTableModel", "laysOpen", "()V"⟩, 45), (⟨"ForwardingTableModel", "missedNow", "()I"⟩, 45), (⟨"ForwardingTableModel", "laysAside", "()V"⟩, 45), (⟨"ForwardingTableModel", "syncs", "(I)I"⟩, 45), (⟨"ForwardingTableModel", "preparesSync", "()V"⟩, 45)]
theorem lw_r5 : ∀ q ∈ lw_privs_5, lw_okq q := List.forall_mem_cons.mpr ⟨lw_p64, List.forall_mem_cons.mpr ⟨lw_p65, List.forall_mem_cons.mpr ⟨lw_p66, List.forall_mem_cons.mpr ⟨lw_p67, List.forall_mem_cons.mpr ⟨lw_p68, List.forall_mem_cons.mpr ⟨lw_p69, List.forall_mem_cons.mpr ⟨lw_p70, List.forall_mem_cons.mpr ⟨lw_p71, List.forall_mem_cons.mpr ⟨lw_p72, List.forall_mem_cons.mpr ⟨lw_p73, List.forall_mem_cons.mpr ⟨lw_p74, List.forall_mem_cons.mpr ⟨lw_p75, List.forall_mem_cons.mpr ⟨lw_p76, List.forall_mem_cons.mpr ⟨lw_p77, List.forall_mem_cons.mpr ⟨lw_p78, List.forall_mem_cons.mpr ⟨lw_p79, fun _ h => absurd h List.not_mem_nil⟩⟩⟩⟩⟩⟩⟩⟩⟩⟩⟩⟩⟩⟩⟩⟩
theorem lw_p80 : lw_okq (⟨"ForwardingTableModel", "changesOne", "()Z"⟩, 45) := ⟨⟨by decide +kernel, by decide +kernel⟩, List.mem_of_getElem? (i := 1042) (by decide +kernel), List.mem_of_getElem? (i := 1527) (by decide +kernel), List.mem_of_getElem? (i := 1528) (by decide +kernel)⟩
theorem lw_p81 : lw_okq (⟨"ForwardingTableModel", "removesOne", "()Z"⟩, 45) := ⟨⟨by decide +kernel, by decide +kernel⟩, List.mem_of_getElem? (i := 1042) (by decide +kernel), List.mem_of_getElem? (i := 1531) (by decide +kernel), List.mem_of_getElem? (i := 1532) (by decide +kernel)⟩
theorem lw_p82 : lw_okq (⟨"ForwardingTableModel", "targetAt", "(II)I"⟩, 45) := ⟨⟨by decide +kernel, by decide +kernel⟩, List.mem_of_getElem? (i := 1042) (by decide +kernel), List.mem_of_getElem? (i := 1535) (by decide +kernel), List.mem_of_getElem? (i := 1536) (by decide +kernel)⟩
theorem lw_p83 : lw_okq (⟨"ForwardingTableModel", "comesBack", "()V"⟩, 45) := ⟨⟨by decide +kernel, by decide +kernel⟩, List.mem_of_getElem? (i := 1042) (by decide +kernel), List.mem_of_getElem? (i := 1539) (by decide +kernel), List.mem_of_getElem? (i := 1540) (by decide +kernel)⟩
theorem lw_p84 : lw_okq (⟨"ForwardingTableModel", "edgeAbove", "(J)J"⟩, 45) := ⟨⟨by decide +kernel, by decide +kernel⟩, List.mem_of_getElem? (i := 1042) (by decide +kernel), List.mem_of_getElem? (i := 1574) (by decide +kernel), List.mem_of_getElem? (i := 1575) (by decide +kernel)⟩
theorem lw_p85 : lw_okq (⟨"ForwardingTableModel", "isIdle", "(I)Z"⟩, 45) := ⟨⟨by decide +kernel, by decide +kernel⟩, List.mem_of_getElem? (i := 1042) (by decide +kernel), List.mem_of_getElem? (i := 1586) (by decide +kernel), List.mem_of_getElem? (i := 1587) (by decide +kernel)⟩
theorem lw_p86 : lw_okq (⟨"ForwardingTableModel", "entriesWithout", "(I)I"⟩, 45) := ⟨⟨by decide +kernel, by decide +kernel⟩, List.mem_of_getElem? (i := 1042) (by decide +kernel), List.mem_of_getElem? (i := 1602) (by decide +kernel), List.mem_of_getElem? (i := 1603) (by decide +kernel)⟩
theorem lw_p87 : lw_okq (⟨"ForwardingTableModel", "writesReport", "(I)V"⟩, 45) := ⟨⟨by decide +kernel, by decide +kernel⟩, List.mem_of_getElem? (i := 1042) (by decide +kernel), List.mem_of_getElem? (i := 1618) (by decide +kernel), List.mem_of_getElem? (i := 1619) (by decide +kernel)⟩
theorem lw_p88 : lw_okq (⟨"ForwardingTableModel", "writesLine", "(III)V"⟩, 45) := ⟨⟨by decide +kernel, by decide +kernel⟩, List.mem_of_getElem? (i := 1042) (by decide +kernel), List.mem_of_getElem? (i := 1622) (by decide +kernel), List.mem_of_getElem? (i := 1623) (by decide +kernel)⟩
theorem lw_p89 : lw_okq (⟨"ForwardingTableModel", "writesAddress", "(I)V"⟩, 45) := ⟨⟨by decide +kernel, by decide +kernel⟩, List.mem_of_getElem? (i := 1042) (by decide +kernel), List.mem_of_getElem? (i := 1626) (by decide +kernel), List.mem_of_getElem? (i := 1627) (by decide +kernel)⟩
theorem lw_p90 : lw_okq (⟨"ForwardingTableModel", "writesNumber", "(I)V"⟩, 45) := ⟨⟨by decide +kernel, by decide +kernel⟩, List.mem_of_getElem? (i := 1042) (by decide +kernel), List.mem_of_getElem? (i := 1630) (by decide +kernel), List.mem_of_getElem? (i := 1631) (by decide +kernel)⟩
theorem lw_p91 : lw_okq (⟨"ForwardingTableModel", "writesSign", "(I)V"⟩, 45) := ⟨⟨by decide +kernel, by decide +kernel⟩, List.mem_of_getElem? (i := 1042) (by decide +kernel), List.mem_of_getElem? (i := 1634) (by decide +kernel), List.mem_of_getElem? (i := 1635) (by decide +kernel)⟩
theorem lw_p92 : lw_okq (⟨"ForwardingTableModel", "goesOn", "()V"⟩, 45) := ⟨⟨by decide +kernel, by decide +kernel⟩, List.mem_of_getElem? (i := 1042) (by decide +kernel), List.mem_of_getElem? (i := 1658) (by decide +kernel), List.mem_of_getElem? (i := 1659) (by decide +kernel)⟩
theorem lw_p93 : lw_okq (⟨"ForwardingTableModel", "here", "()I"⟩, 45) := ⟨⟨by decide +kernel, by decide +kernel⟩, List.mem_of_getElem? (i := 1042) (by decide +kernel), List.mem_of_getElem? (i := 1662) (by decide +kernel), List.mem_of_getElem? (i := 1663) (by decide +kernel)⟩
theorem lw_p94 : lw_okq (⟨"ForwardingTableModel", "isSpelt", "(I)Z"⟩, 45) := ⟨⟨by decide +kernel, by decide +kernel⟩, List.mem_of_getElem? (i := 1042) (by decide +kernel), List.mem_of_getElem? (i := 1668) (by decide +kernel), List.mem_of_getElem? (i := 1669) (by decide +kernel)⟩
theorem lw_p95 : lw_okq (⟨"ForwardingTableModel", "wordFrom", "(I)I"⟩, 45) := ⟨⟨by decide +kernel, by decide +kernel⟩, List.mem_of_getElem? (i := 1042) (by decide +kernel), List.mem_of_getElem? (i := 1672) (by decide +kernel), List.mem_of_getElem? (i := 1673) (by decide +kernel)⟩
def lw_privs_6 : List (MethodName × Nat) := [(⟨"ForwardingTableModel", "changesOne", "()Z"⟩, 45), (⟨"ForwardingTableModel", "removesOne", "()Z"⟩, 45), (⟨"ForwardingTableModel", "targetAt", "(II)I"⟩, 45), (⟨"ForwardingTableModel", "comesBack", "()V"⟩, 45), (⟨"ForwardingTableModel", "edgeAbove", "(J)J"⟩, 45), (⟨"ForwardingTableModel", "isIdle", "(I)Z"⟩, 45), (⟨"ForwardingTableModel", "entriesWithout", "(I)I"⟩, 45), (⟨"ForwardingTableModel", "writesReport", "(I)V"⟩, 45), (⟨"ForwardingTableModel", "writesLine", "(III)V"⟩, 45), (⟨"ForwardingTableModel", "writesAddress", "(I)V"⟩, 45), (⟨"ForwardingTableModel", "writesNumber", "(I)V"⟩, 45), (⟨"ForwardingTableModel", "writesSign", "(I)V"⟩, 45), (⟨"ForwardingTableModel", "goesOn", "()V"⟩, 45), (⟨"ForwardingTableModel", "here", "()I"⟩, 45), (⟨"ForwardingTableModel", "isSpelt", "(I)Z"⟩, 45), (⟨"ForwardingTableModel", "wordFrom", "(I)I"⟩, 45)]
theorem lw_r6 : ∀ q ∈ lw_privs_6, lw_okq q := List.forall_mem_cons.mpr ⟨lw_p80, List.forall_mem_cons.mpr ⟨lw_p81, List.forall_mem_cons.mpr ⟨lw_p82, List.forall_mem_cons.mpr ⟨lw_p83, List.forall_mem_cons.mpr ⟨lw_p84, List.forall_mem_cons.mpr ⟨lw_p85, List.forall_mem_cons.mpr ⟨lw_p86, List.forall_mem_cons.mpr ⟨lw_p87, List.forall_mem_cons.mpr ⟨lw_p88, List.forall_mem_cons.mpr ⟨lw_p89, List.forall_mem_cons.mpr ⟨lw_p90, List.forall_mem_cons.mpr ⟨lw_p91, List.forall_mem_cons.mpr ⟨lw_p92, List.forall_mem_cons.mpr ⟨lw_p93, List.forall_mem_cons.mpr ⟨lw_p94, List.forall_mem_cons.mpr ⟨lw_p95, fun _ h => absurd h List.not_mem_nil⟩⟩⟩⟩⟩⟩⟩⟩⟩⟩⟩⟩⟩⟩⟩⟩
theorem lw_p96 : lw_okq (⟨"ForwardingTableModel", "needsWord", "(I)V"⟩, 45) := ⟨⟨by decide +kernel, by decide +kernel⟩, List.mem_of_getElem? (i := 1042) (by decide +kernel), List.mem_of_getElem? (i := 1678) (by decide +kernel), List.mem_of_getElem? (i := 1679) (by decide +kernel)⟩
theorem lw_p97 : lw_okq (⟨"ForwardingTableModel", "isWord", "(I)Z"⟩, 45) := ⟨⟨by decide +kernel, by decide +kernel⟩, List.mem_of_getElem? (i := 1042) (by decide +kernel), List.mem_of_getElem? (i := 1682) (by decide +kernel), List.mem_of_getElem? (i := 1683) (by decide +kernel)⟩
theorem lw_p98 : lw_okq (⟨"ForwardingTableModel", "fails", "()V"⟩, 45) := ⟨⟨by decide +kernel, by decide +kernel⟩, List.mem_of_getElem? (i := 1042) (by decide +kernel), List.mem_of_getElem? (i := 1686) (by decide +kernel), List.mem_of_getElem? (i := 1687) (by decide +kernel)⟩
theorem lw_p99 : lw_okq (⟨"ForwardingTableModel", "needsNumber", "(II)I"⟩, 45) := ⟨⟨by decide +kernel, by decide +kernel⟩, List.mem_of_getElem? (i := 1042) (by decide +kernel), List.mem_of_getElem? (i := 1690) (by decide +kernel), List.mem_of_getElem? (i := 1691) (by decide +kernel)⟩
theorem lw_p100 : lw_okq (⟨"ForwardingTableModel", "needsSign", "(I)V"⟩, 45) := ⟨⟨by decide +kernel, by decide +kernel⟩, List.mem_of_getElem? (i := 1042) (by decide +kernel), List.mem_of_getElem? (i := 1694) (by decide +kernel), List.mem_of_getElem? (i := 1695) (by decide +kernel)⟩
theorem lw_p101 : lw_okq (⟨"ForwardingTableModel", "readsRoute", "()V"⟩, 45) := ⟨⟨by decide +kernel, by decide +kernel⟩, List.mem_of_getElem? (i := 1042) (by decide +kernel), List.mem_of_getElem? (i := 1698) (by decide +kernel), List.mem_of_getElem? (i := 1699) (by decide +kernel)⟩
theorem lw_p102 : lw_okq (⟨"ForwardingTableModel", "readsBytes", "(I)I"⟩, 45) := ⟨⟨by decide +kernel, by decide +kernel⟩, List.mem_of_getElem? (i := 1042) (by decide +kernel), List.mem_of_getElem? (i := 1702) (by decide +kernel), List.mem_of_getElem? (i := 1703) (by decide +kernel)⟩
theorem lw_p103 : lw_okq (⟨"ForwardingTableModel", "isTold", "(II)Z"⟩, 45) := ⟨⟨by decide +kernel, by decide +kernel⟩, List.mem_of_getElem? (i := 1042) (by decide +kernel), List.mem_of_getElem? (i := 1706) (by decide +kernel), List.mem_of_getElem? (i := 1707) (by decide +kernel)⟩
theorem lw_p104 : lw_okq (⟨"ForwardingTableModel", "readsSeen", "()V"⟩, 45) := ⟨⟨by decide +kernel, by decide +kernel⟩, List.mem_of_getElem? (i := 1042) (by decide +kernel), List.mem_of_getElem? (i := 1710) (by decide +kernel), List.mem_of_getElem? (i := 1711) (by decide +kernel)⟩
theorem lw_p105 : lw_okq (⟨"ForwardingTableModel", "isSeen", "(I)Z"⟩, 45) := ⟨⟨by decide +kernel, by decide +kernel⟩, List.mem_of_getElem? (i := 1042) (by decide +kernel), List.mem_of_getElem? (i := 1715) (by decide +kernel), List.mem_of_getElem? (i := 1716) (by decide +kernel)⟩
def lw_privs_7 : List (MethodName × Nat) := [(⟨"ForwardingTableModel", "needsWord", "(I)V"⟩, 45), (⟨"ForwardingTableModel", "isWord", "(I)Z"⟩, 45), (⟨"ForwardingTableModel", "fails", "()V"⟩, 45), (⟨"ForwardingTableModel", "needsNumber", "(II)I"⟩, 45), (⟨"ForwardingTableModel", "needsSign", "(I)V"⟩, 45), (⟨"ForwardingTableModel", "readsRoute", "()V"⟩, 45), (⟨"ForwardingTableModel", "readsBytes", "(I)I"⟩, 45), (⟨"ForwardingTableModel", "isTold", "(II)Z"⟩, 45), (⟨"ForwardingTableModel", "readsSeen", "()V"⟩, 45), (⟨"ForwardingTableModel", "isSeen", "(I)Z"⟩, 45)]
theorem lw_r7 : ∀ q ∈ lw_privs_7, lw_okq q := List.forall_mem_cons.mpr ⟨lw_p96, List.forall_mem_cons.mpr ⟨lw_p97, List.forall_mem_cons.mpr ⟨lw_p98, List.forall_mem_cons.mpr ⟨lw_p99, List.forall_mem_cons.mpr ⟨lw_p100, List.forall_mem_cons.mpr ⟨lw_p101, List.forall_mem_cons.mpr ⟨lw_p102, List.forall_mem_cons.mpr ⟨lw_p103, List.forall_mem_cons.mpr ⟨lw_p104, List.forall_mem_cons.mpr ⟨lw_p105, fun _ h => absurd h List.not_mem_nil⟩⟩⟩⟩⟩⟩⟩⟩⟩⟩
def lw_privs : List (MethodName × Nat) := lw_privs_1 ++ (lw_privs_2 ++ (lw_privs_3 ++ (lw_privs_4 ++ (lw_privs_5 ++ (lw_privs_6 ++ (lw_privs_7))))))
def lw_tbl : List Cond := k2_sels lw_privs ++ tables_1
theorem lw_privs_ok : ∀ q ∈ lw_privs, lw_okq q := by
  show ∀ q ∈ lw_privs_1 ++ (lw_privs_2 ++ (lw_privs_3 ++ (lw_privs_4 ++ (lw_privs_5 ++ (lw_privs_6 ++ (lw_privs_7)))))), lw_okq q
  exact List.forall_mem_append.mpr ⟨lw_r1, List.forall_mem_append.mpr ⟨lw_r2, List.forall_mem_append.mpr ⟨lw_r3, List.forall_mem_append.mpr ⟨lw_r4, List.forall_mem_append.mpr ⟨lw_r5, List.forall_mem_append.mpr ⟨lw_r6, lw_r7⟩⟩⟩⟩⟩⟩
end
section
-- printed by wip/whole/gen/gen02.py: the classes, the cells of the whole world in the order of their making, where references lead
def ftC0 : String := "ForwardingTable$Choice"
def ftT0 : u_T := fun k => match k with
  | 0 => ("ForwardingTable$Choice", "entryHits", "[I", true)
  | 1 => ("ForwardingTable$Choice", "target", "LForwardingTable$PrefixSet;", true)
  | 2 => ("ForwardingTable$Choice", "allHits", "I", false)
  | 3 => ("ForwardingTable$Choice", "kept", "J", false)
  | 4 => ("ForwardingTable$Choice", "rowHits", "[[I", true)
  | 5 => ("ForwardingTable$Choice", "rowKept", "[[J", true)
  | 6 => ("ForwardingTable$Choice", "rowMost", "[I", true)
  | 7 => ("ForwardingTable$Choice", "oneHits", "[I", true)
  | _ => ("ForwardingTable$Choice", "oneKept", "[J", true)
def ftY0 : Nat → FieldType := fun k => match k with
  | 0 => .array .int
  | 1 => .object "ForwardingTable$PrefixSet"
  | 2 => .int
  | 3 => .long
  | 4 => .array (.array .int)
  | 5 => .array (.array .long)
  | 6 => .array .int
  | 7 => .array .int
  | _ => .array .long
def ftC1 : String := "ForwardingTable$Compressor"
def ftT1 : u_T := fun k => match k with
  | 0 => ("ForwardingTable$Compressor", "keys", "[J", true)
  | 1 => ("ForwardingTable$Compressor", "first", "[I", true)
  | 2 => ("ForwardingTable$Compressor", "behind", "[I", true)
  | 3 => ("ForwardingTable$Compressor", "outer", "[I", true)
  | 4 => ("ForwardingTable$Compressor", "around", "[I", true)
  | 5 => ("ForwardingTable$Compressor", "split", "[Z", true)
  | 6 => ("ForwardingTable$Compressor", "inBoth", "[I", true)
  | 7 => ("ForwardingTable$Compressor", "inOne", "[I", true)
  | 8 => ("ForwardingTable$Compressor", "handed", "[I", true)
  | 9 => ("ForwardingTable$Compressor", "entryHop", "[I", true)
  | _ => ("ForwardingTable$Compressor", "nodes", "I", false)
def ftY1 : Nat → FieldType := fun k => match k with
  | 0 => .array .long
  | 1 => .array .int
  | 2 => .array .int
  | 3 => .array .int
  | 4 => .array .int
  | 5 => .array .boolean
  | 6 => .array .int
  | 7 => .array .int
  | 8 => .array .int
  | 9 => .array .int
  | _ => .int
def ftC2 : String := "ForwardingTable$Cover"
def ftT2 : u_T := fun k => match k with
  | 0 => ("ForwardingTable$Cover", "parent", "[I", true)
  | 1 => ("ForwardingTable$Cover", "depth", "[I", true)
  | 2 => ("ForwardingTable$Cover", "own", "[J", true)
  | 3 => ("ForwardingTable$Cover", "runStart", "[J", true)
  | 4 => ("ForwardingTable$Cover", "runHop", "[I", true)
  | 5 => ("ForwardingTable$Cover", "runs", "I", false)
  | 6 => ("ForwardingTable$Cover", "deepest", "I", false)
  | 7 => ("ForwardingTable$Cover", "open", "[I", true)
  | 8 => ("ForwardingTable$Cover", "opened", "I", false)
  | _ => ("ForwardingTable$Cover", "walked", "J", false)
def ftY2 : Nat → FieldType := fun k => match k with
  | 0 => .array .int
  | 1 => .array .int
  | 2 => .array .long
  | 3 => .array .long
  | 4 => .array .int
  | 5 => .int
  | 6 => .int
  | 7 => .array .int
  | 8 => .int
  | _ => .long
def ftC3 : String := "ForwardingTable$History"
def ftT3 : u_T := fun k => match k with
  | 0 => ("ForwardingTable$History", "past", "[LForwardingTable$State;", true)
  | 1 => ("ForwardingTable$History", "size", "I", false)
  | _ => ("ForwardingTable$History", "next", "I", false)
def ftY3 : Nat → FieldType := fun k => match k with
  | 0 => .array (.object "ForwardingTable$State")
  | 1 => .int
  | _ => .int
def ftC4 : String := "ForwardingTable$PrefixSet"
def ftT4 : u_T := fun k => match k with
  | 0 => ("ForwardingTable$PrefixSet", "keys", "[J", true)
  | 1 => ("ForwardingTable$PrefixSet", "hops", "[I", true)
  | _ => ("ForwardingTable$PrefixSet", "size", "I", false)
def ftY4 : Nat → FieldType := fun k => match k with
  | 0 => .array .long
  | 1 => .array .int
  | _ => .int
def ftC5 : String := "ForwardingTable$Report"
def ftT5 : u_T := fun k => match k with
  | 0 => ("ForwardingTable$Report", "bytes", "[B", true)
  | 1 => ("ForwardingTable$Report", "size", "I", false)
  | _ => ("ForwardingTable$Report", "kind", "I", false)
def ftY5 : Nat → FieldType := fun k => match k with
  | 0 => .array .byte
  | 1 => .int
  | _ => .int
def ftC6 : String := "ForwardingTable$State"
def ftT6 : u_T := fun k => match k with
  | 0 => ("ForwardingTable$State", "capacity", "I", false)
  | 1 => ("ForwardingTable$State", "routes", "LForwardingTable$PrefixSet;", true)
  | 2 => ("ForwardingTable$State", "hardware", "LForwardingTable$PrefixSet;", true)
  | 3 => ("ForwardingTable$State", "log", "LForwardingTable$TrafficLog;", true)
  | _ => ("ForwardingTable$State", "counts", "[J", true)
def ftY6 : Nat → FieldType := fun k => match k with
  | 0 => .int
  | 1 => .object "ForwardingTable$PrefixSet"
  | 2 => .object "ForwardingTable$PrefixSet"
  | 3 => .object "ForwardingTable$TrafficLog"
  | _ => .array .long
def ftC7 : String := "ForwardingTable$SyncPlan"
def ftT7 : u_T := fun k => match k with
  | 0 => ("ForwardingTable$SyncPlan", "keys", "[J", true)
  | 1 => ("ForwardingTable$SyncPlan", "kinds", "[I", true)
  | 2 => ("ForwardingTable$SyncPlan", "actions", "[I", true)
  | 3 => ("ForwardingTable$SyncPlan", "ranks", "[I", true)
  | 4 => ("ForwardingTable$SyncPlan", "size", "I", false)
  | _ => ("ForwardingTable$SyncPlan", "clears", "Z", false)
def ftY7 : Nat → FieldType := fun k => match k with
  | 0 => .array .long
  | 1 => .array .int
  | 2 => .array .int
  | 3 => .array .int
  | 4 => .int
  | _ => .boolean
def ftC8 : String := "ForwardingTable$Tape"
def ftT8 : u_T := fun k => match k with
  | 0 => ("ForwardingTable$Tape", "bytes", "[B", true)
  | 1 => ("ForwardingTable$Tape", "size", "I", false)
  | 2 => ("ForwardingTable$Tape", "start", "I", false)
  | 3 => ("ForwardingTable$Tape", "position", "I", false)
  | 4 => ("ForwardingTable$Tape", "kind", "I", false)
  | 5 => ("ForwardingTable$Tape", "number", "I", false)
  | _ => ("ForwardingTable$Tape", "value", "J", false)
def ftY8 : Nat → FieldType := fun k => match k with
  | 0 => .array .byte
  | 1 => .int
  | 2 => .int
  | 3 => .int
  | 4 => .int
  | 5 => .int
  | _ => .long
def ftC9 : String := "ForwardingTable$TrafficLog"
def ftT9 : u_T := fun k => match k with
  | 0 => ("ForwardingTable$TrafficLog", "seen", "[J", true)
  | 1 => ("ForwardingTable$TrafficLog", "times", "[I", true)
  | _ => ("ForwardingTable$TrafficLog", "size", "I", false)
def ftY9 : Nat → FieldType := fun k => match k with
  | 0 => .array .long
  | 1 => .array .int
  | _ => .int
def ftC10 : String := "ForwardingTable"
def ftT10 : u_T := fun k => match k with
  | 0 => ("ForwardingTable", "state", "LForwardingTable$State;", true)
  | 1 => ("ForwardingTable", "draft", "LForwardingTable$State;", true)
  | 2 => ("ForwardingTable", "history", "LForwardingTable$History;", true)
  | 3 => ("ForwardingTable", "tape", "LForwardingTable$Tape;", true)
  | 4 => ("ForwardingTable", "faultPosition", "I", false)
  | 5 => ("ForwardingTable", "settled", "I", false)
  | 6 => ("ForwardingTable", "routeCover", "LForwardingTable$Cover;", true)
  | 7 => ("ForwardingTable", "compressor", "LForwardingTable$Compressor;", true)
  | 8 => ("ForwardingTable", "entries", "LForwardingTable$PrefixSet;", true)
  | 9 => ("ForwardingTable", "entryCover", "LForwardingTable$Cover;", true)
  | 10 => ("ForwardingTable", "choice", "LForwardingTable$Choice;", true)
  | 11 => ("ForwardingTable", "plan", "LForwardingTable$SyncPlan;", true)
  | 12 => ("ForwardingTable", "report", "LForwardingTable$Report;", true)
  | 13 => ("ForwardingTable", "otherRoutes", "LForwardingTable$PrefixSet;", true)
  | 14 => ("ForwardingTable", "trialHardware", "LForwardingTable$PrefixSet;", true)
  | _ => ("ForwardingTable", "hardwareCover", "LForwardingTable$Cover;", true)
def ftY10 : Nat → FieldType := fun k => match k with
  | 0 => .object "ForwardingTable$State"
  | 1 => .object "ForwardingTable$State"
  | 2 => .object "ForwardingTable$History"
  | 3 => .object "ForwardingTable$Tape"
  | 4 => .int
  | 5 => .int
  | 6 => .object "ForwardingTable$Cover"
  | 7 => .object "ForwardingTable$Compressor"
  | 8 => .object "ForwardingTable$PrefixSet"
  | 9 => .object "ForwardingTable$Cover"
  | 10 => .object "ForwardingTable$Choice"
  | 11 => .object "ForwardingTable$SyncPlan"
  | 12 => .object "ForwardingTable$Report"
  | 13 => .object "ForwardingTable$PrefixSet"
  | 14 => .object "ForwardingTable$PrefixSet"
  | _ => .object "ForwardingTable$Cover"
def ftC11 : String := "ForwardingTableModel"
def ftT11 : u_T := fun k => match k with
  | 0 => ("ForwardingTableModel", "thrown", "I", false)
  | 1 => ("ForwardingTableModel", "s", "[I", true)
  | 2 => ("ForwardingTableModel", "past", "[I", true)
  | 3 => ("ForwardingTableModel", "aside", "[I", true)
  | 4 => ("ForwardingTableModel", "pastMany", "I", false)
  | 5 => ("ForwardingTableModel", "partValue", "[I", true)
  | 6 => ("ForwardingTableModel", "partLength", "[I", true)
  | 7 => ("ForwardingTableModel", "partHalf", "[I", true)
  | 8 => ("ForwardingTableModel", "partSet", "[I", true)
  | 9 => ("ForwardingTableModel", "partHop", "[I", true)
  | 10 => ("ForwardingTableModel", "parts", "I", false)
  | 11 => ("ForwardingTableModel", "value", "[I", true)
  | 12 => ("ForwardingTableModel", "length", "[I", true)
  | 13 => ("ForwardingTableModel", "hop", "[I", true)
  | 14 => ("ForwardingTableModel", "entries", "I", false)
  | 15 => ("ForwardingTableModel", "parent", "[I", true)
  | 16 => ("ForwardingTableModel", "hits", "[I", true)
  | 17 => ("ForwardingTableModel", "lost", "[I", true)
  | 18 => ("ForwardingTableModel", "merged", "[I", true)
  | 19 => ("ForwardingTableModel", "decided", "[I", true)
  | 20 => ("ForwardingTableModel", "isLaid", "Z", false)
  | 21 => ("ForwardingTableModel", "bestLost", "I", false)
  | 22 => ("ForwardingTableModel", "bestPlaces", "I", false)
  | 23 => ("ForwardingTableModel", "targetValue", "[I", true)
  | 24 => ("ForwardingTableModel", "targetLength", "[I", true)
  | 25 => ("ForwardingTableModel", "targetAction", "[I", true)
  | 26 => ("ForwardingTableModel", "places", "I", false)
  | 27 => ("ForwardingTableModel", "madeValue", "I", false)
  | 28 => ("ForwardingTableModel", "madeLength", "I", false)
  | 29 => ("ForwardingTableModel", "madeKind", "I", false)
  | 30 => ("ForwardingTableModel", "madeAction", "I", false)
  | 31 => ("ForwardingTableModel", "text", "[I", true)
  | 32 => ("ForwardingTableModel", "textMany", "I", false)
  | 33 => ("ForwardingTableModel", "tape", "[I", true)
  | 34 => ("ForwardingTableModel", "taped", "I", false)
  | 35 => ("ForwardingTableModel", "words", "[B", true)
  | 36 => ("ForwardingTableModel", "spot", "I", false)
  | 37 => ("ForwardingTableModel", "token", "I", false)
  | 38 => ("ForwardingTableModel", "begun", "I", false)
  | 39 => ("ForwardingTableModel", "word", "I", false)
  | 40 => ("ForwardingTableModel", "sign", "I", false)
  | 41 => ("ForwardingTableModel", "digits", "I", false)
  | 42 => ("ForwardingTableModel", "wrong", "I", false)
  | 43 => ("ForwardingTableModel", "isWrong", "Z", false)
  | _ => ("ForwardingTableModel", "told", "[I", true)
def ftY11 : Nat → FieldType := fun k => match k with
  | 0 => .int
  | 1 => .array .int
  | 2 => .array .int
  | 3 => .array .int
  | 4 => .int
  | 5 => .array .int
  | 6 => .array .int
  | 7 => .array .int
  | 8 => .array .int
  | 9 => .array .int
  | 10 => .int
  | 11 => .array .int
  | 12 => .array .int
  | 13 => .array .int
  | 14 => .int
  | 15 => .array .int
  | 16 => .array .int
  | 17 => .array .int
  | 18 => .array .int
  | 19 => .array .int
  | 20 => .boolean
  | 21 => .int
  | 22 => .int
  | 23 => .array .int
  | 24 => .array .int
  | 25 => .array .int
  | 26 => .int
  | 27 => .int
  | 28 => .int
  | 29 => .int
  | 30 => .int
  | 31 => .array .int
  | 32 => .int
  | 33 => .array .int
  | 34 => .int
  | 35 => .array .byte
  | 36 => .int
  | 37 => .int
  | 38 => .int
  | 39 => .int
  | 40 => .int
  | 41 => .int
  | 42 => .int
  | 43 => .boolean
  | _ => .array .int
abbrev ft_cls : List vw_C := [(ftC0, ftT0, 9), (ftC1, ftT1, 11), (ftC2, ftT2, 10), (ftC3, ftT3, 3), (ftC4, ftT4, 3), (ftC5, ftT5, 3), (ftC6, ftT6, 5), (ftC7, ftT7, 6), (ftC8, ftT8, 7), (ftC9, ftT9, 3), (ftC10, ftT10, 16), (ftC11, ftT11, 45)]
/-- the kinds of the fields: 0 an int (or a boolean), 1 a long, 2 a reference -/
def ft_fkL : List (List Nat) := [[2, 2, 0, 1, 2, 2, 2, 2, 2], [2, 2, 2, 2, 2, 2, 2, 2, 2, 2, 0], [2, 2, 2, 2, 2, 0, 0, 2, 0, 1], [2, 0, 0], [2, 2, 0], [2, 0, 0], [0, 2, 2, 2, 2], [2, 2, 2, 2, 0, 0], [2, 0, 0, 0, 0, 0, 1], [2, 2, 0], [2, 2, 2, 2, 0, 0, 2, 2, 2, 2, 2, 2, 2, 2, 2, 2], [0, 2, 2, 2, 0, 2, 2, 2, 2, 2, 0, 2, 2, 2, 0, 2, 2, 2, 2, 2, 0, 0, 0, 2, 2, 2, 0, 0, 0, 0, 0, 2, 0, 2, 0, 2, 0, 0, 0, 0, 0, 0, 0, 0, 2]]
def ft_fk (ci : Nat) : List Nat := ft_fkL.getD ci []
/-- the cells: an object of a class, or an array (kind, length); kinds: 0 int, 1 long, 2 byte, 3 boolean, 4 State, 5 int[], 6 long[] -/
def ft_shp0 : List (Nat ⊕ Nat × Nat) := [.inl 10, .inl 6, .inl 4, .inr (1, 60), .inr (0, 60), .inl 4, .inr (1, 80), .inr (0, 80), .inl 9, .inr (1, 40), .inr (0, 40), .inr (1, 5), .inl 6, .inl 4, .inr (1, 60), .inr (0, 60), .inl 4, .inr (1, 80), .inr (0, 80), .inl 9, .inr (1, 40), .inr (0, 40), .inr (1, 5), .inl 3, .inr (4, 8), .inl 6, .inl 4, .inr (1, 60), .inr (0, 60), .inl 4, .inr (1, 80), .inr (0, 80), .inl 9, .inr (1, 40), .inr (0, 40), .inr (1, 5), .inl 6, .inl 4, .inr (1, 60), .inr (0, 60), .inl 4, .inr (1, 80), .inr (0, 80), .inl 9, .inr (1, 40), .inr (0, 40), .inr (1, 5), .inl 6, .inl 4, .inr (1, 60)]
def ft_shp1 : List (Nat ⊕ Nat × Nat) := [.inr (0, 60), .inl 4, .inr (1, 80), .inr (0, 80), .inl 9, .inr (1, 40), .inr (0, 40), .inr (1, 5), .inl 6, .inl 4, .inr (1, 60), .inr (0, 60), .inl 4, .inr (1, 80), .inr (0, 80), .inl 9, .inr (1, 40), .inr (0, 40), .inr (1, 5), .inl 6, .inl 4, .inr (1, 60), .inr (0, 60), .inl 4, .inr (1, 80), .inr (0, 80), .inl 9, .inr (1, 40), .inr (0, 40), .inr (1, 5), .inl 6, .inl 4, .inr (1, 60), .inr (0, 60), .inl 4, .inr (1, 80), .inr (0, 80), .inl 9, .inr (1, 40), .inr (0, 40), .inr (1, 5), .inl 6, .inl 4, .inr (1, 60), .inr (0, 60), .inl 4, .inr (1, 80), .inr (0, 80), .inl 9, .inr (1, 40)]
def ft_shp2 : List (Nat ⊕ Nat × Nat) := [.inr (0, 40), .inr (1, 5), .inl 6, .inl 4, .inr (1, 60), .inr (0, 60), .inl 4, .inr (1, 80), .inr (0, 80), .inl 9, .inr (1, 40), .inr (0, 40), .inr (1, 5), .inl 8, .inr (2, 2200), .inl 2, .inr (0, 33), .inr (0, 60), .inr (0, 60), .inr (1, 60), .inr (1, 121), .inr (0, 121), .inl 1, .inr (1, 360), .inr (0, 360), .inr (0, 360), .inr (0, 360), .inr (0, 360), .inr (3, 360), .inr (0, 360), .inr (0, 360), .inr (0, 360), .inr (0, 360), .inl 4, .inr (1, 60), .inr (0, 60), .inl 2, .inr (0, 33), .inr (0, 60), .inr (0, 60), .inr (1, 60), .inr (1, 121), .inr (0, 121), .inl 0, .inr (0, 60), .inl 4, .inr (1, 60), .inr (0, 60), .inr (5, 68), .inr (0, 61)]
def ft_shp3 : List (Nat ⊕ Nat × Nat) := [.inr (0, 61), .inr (0, 61), .inr (0, 61), .inr (0, 61), .inr (0, 61), .inr (0, 61), .inr (0, 61), .inr (0, 61), .inr (0, 61), .inr (0, 61), .inr (0, 61), .inr (0, 61), .inr (0, 61), .inr (0, 61), .inr (0, 61), .inr (0, 61), .inr (0, 61), .inr (0, 61), .inr (0, 61), .inr (0, 61), .inr (0, 61), .inr (0, 61), .inr (0, 61), .inr (0, 61), .inr (0, 61), .inr (0, 61), .inr (0, 61), .inr (0, 61), .inr (0, 61), .inr (0, 61), .inr (0, 61), .inr (0, 61), .inr (0, 61), .inr (0, 61), .inr (0, 61), .inr (0, 61), .inr (0, 61), .inr (0, 61), .inr (0, 61), .inr (0, 61), .inr (0, 61), .inr (0, 61), .inr (0, 61), .inr (0, 61), .inr (0, 61), .inr (0, 61), .inr (0, 61), .inr (0, 61), .inr (0, 61), .inr (0, 61)]
def ft_shp4 : List (Nat ⊕ Nat × Nat) := [.inr (0, 61), .inr (0, 61), .inr (0, 61), .inr (0, 61), .inr (0, 61), .inr (0, 61), .inr (0, 61), .inr (0, 61), .inr (0, 61), .inr (0, 61), .inr (0, 61), .inr (0, 61), .inr (0, 61), .inr (0, 61), .inr (0, 61), .inr (0, 61), .inr (0, 61), .inr (6, 68), .inr (1, 61), .inr (1, 61), .inr (1, 61), .inr (1, 61), .inr (1, 61), .inr (1, 61), .inr (1, 61), .inr (1, 61), .inr (1, 61), .inr (1, 61), .inr (1, 61), .inr (1, 61), .inr (1, 61), .inr (1, 61), .inr (1, 61), .inr (1, 61), .inr (1, 61), .inr (1, 61), .inr (1, 61), .inr (1, 61), .inr (1, 61), .inr (1, 61), .inr (1, 61), .inr (1, 61), .inr (1, 61), .inr (1, 61), .inr (1, 61), .inr (1, 61), .inr (1, 61), .inr (1, 61), .inr (1, 61), .inr (1, 61)]
def ft_shp5 : List (Nat ⊕ Nat × Nat) := [.inr (1, 61), .inr (1, 61), .inr (1, 61), .inr (1, 61), .inr (1, 61), .inr (1, 61), .inr (1, 61), .inr (1, 61), .inr (1, 61), .inr (1, 61), .inr (1, 61), .inr (1, 61), .inr (1, 61), .inr (1, 61), .inr (1, 61), .inr (1, 61), .inr (1, 61), .inr (1, 61), .inr (1, 61), .inr (1, 61), .inr (1, 61), .inr (1, 61), .inr (1, 61), .inr (1, 61), .inr (1, 61), .inr (1, 61), .inr (1, 61), .inr (1, 61), .inr (1, 61), .inr (1, 61), .inr (1, 61), .inr (1, 61), .inr (1, 61), .inr (1, 61), .inr (1, 61), .inr (1, 61), .inr (0, 34), .inr (0, 61), .inr (1, 61), .inl 7, .inr (1, 140), .inr (0, 140), .inr (0, 140), .inr (0, 140), .inl 5, .inr (2, 1760), .inl 4, .inr (1, 60), .inr (0, 60), .inl 4]
def ft_shp6 : List (Nat ⊕ Nat × Nat) := [.inr (1, 80), .inr (0, 80), .inl 2, .inr (0, 33), .inr (0, 80), .inr (0, 80), .inr (1, 80), .inr (1, 161), .inr (0, 161), .inl 11, .inr (0, 520), .inr (0, 4160), .inr (0, 520), .inr (0, 3900), .inr (0, 3900), .inr (0, 3900), .inr (0, 3900), .inr (0, 3900), .inr (0, 64), .inr (0, 64), .inr (0, 64), .inr (0, 64), .inr (0, 64), .inr (0, 7930), .inr (0, 61), .inr (0, 64), .inr (0, 64), .inr (0, 64), .inr (0, 64), .inr (0, 2400), .inr (0, 2200), .inr (2, 30), .inr (0, 520)]
def ft_shapes : List (Nat ⊕ Nat × Nat) := ft_shp0 ++ (ft_shp1 ++ (ft_shp2 ++ (ft_shp3 ++ (ft_shp4 ++ (ft_shp5 ++ (ft_shp6))))))
/-- where references lead: of each cell, by field or place -/
def ft_lay0 : List (List Nat) := [[1, 12, 23, 113, 0, 0, 115, 122, 133, 136, 143, 289, 294, 296, 299, 302], [0, 2, 5, 8, 11], [3, 4, 0], [], [], [6, 7, 0], [], [], [9, 10, 0], [], [], [], [0, 13, 16, 19, 22], [14, 15, 0], [], [], [17, 18, 0], [], [], [20, 21, 0], [], [], [], [24, 0, 0], [25, 36, 47, 58, 69, 80, 91, 102], [0, 26, 29, 32, 35], [27, 28, 0], [], [], [30, 31, 0], [], [], [33, 34, 0], [], [], [], [0, 37, 40, 43, 46], [38, 39, 0], [], [], [41, 42, 0], [], [], [44, 45, 0], [], [], [], [0, 48, 51, 54, 57], [49, 50, 0], []]
def ft_lay1 : List (List Nat) := [[], [52, 53, 0], [], [], [55, 56, 0], [], [], [], [0, 59, 62, 65, 68], [60, 61, 0], [], [], [63, 64, 0], [], [], [66, 67, 0], [], [], [], [0, 70, 73, 76, 79], [71, 72, 0], [], [], [74, 75, 0], [], [], [77, 78, 0], [], [], [], [0, 81, 84, 87, 90], [82, 83, 0], [], [], [85, 86, 0], [], [], [88, 89, 0], [], [], [], [0, 92, 95, 98, 101], [93, 94, 0], [], [], [96, 97, 0], [], [], [99, 100, 0], []]
def ft_lay2 : List (List Nat) := [[], [], [0, 103, 106, 109, 112], [104, 105, 0], [], [], [107, 108, 0], [], [], [110, 111, 0], [], [], [], [114, 0, 0, 0, 0, 0, 0], [], [117, 118, 119, 120, 121, 0, 0, 116, 0, 0], [], [], [], [], [], [], [123, 124, 125, 126, 127, 128, 129, 130, 131, 132, 0], [], [], [], [], [], [], [], [], [], [], [134, 135, 0], [], [], [138, 139, 140, 141, 142, 0, 0, 137, 0, 0], [], [], [], [], [], [], [144, 145, 0, 0, 148, 217, 286, 287, 288], [], [146, 147, 0], [], [], [149, 150, 151, 152, 153, 154, 155, 156, 157, 158, 159, 160, 161, 162, 163, 164, 165, 166, 167, 168, 169, 170, 171, 172, 173, 174, 175, 176, 177, 178, 179, 180, 181, 182, 183, 184, 185, 186, 187, 188, 189, 190, 191, 192, 193, 194, 195, 196, 197, 198, 199, 200, 201, 202, 203, 204, 205, 206, 207, 208, 209, 210, 211, 212, 213, 214, 215, 216], []]
def ft_lay3 : List (List Nat) := [[], [], [], [], [], [], [], [], [], [], [], [], [], [], [], [], [], [], [], [], [], [], [], [], [], [], [], [], [], [], [], [], [], [], [], [], [], [], [], [], [], [], [], [], [], [], [], [], [], []]
def ft_lay4 : List (List Nat) := [[], [], [], [], [], [], [], [], [], [], [], [], [], [], [], [], [], [218, 219, 220, 221, 222, 223, 224, 225, 226, 227, 228, 229, 230, 231, 232, 233, 234, 235, 236, 237, 238, 239, 240, 241, 242, 243, 244, 245, 246, 247, 248, 249, 250, 251, 252, 253, 254, 255, 256, 257, 258, 259, 260, 261, 262, 263, 264, 265, 266, 267, 268, 269, 270, 271, 272, 273, 274, 275, 276, 277, 278, 279, 280, 281, 282, 283, 284, 285], [], [], [], [], [], [], [], [], [], [], [], [], [], [], [], [], [], [], [], [], [], [], [], [], [], [], [], [], [], [], [], []]
def ft_lay5 : List (List Nat) := [[], [], [], [], [], [], [], [], [], [], [], [], [], [], [], [], [], [], [], [], [], [], [], [], [], [], [], [], [], [], [], [], [], [], [], [], [], [], [], [290, 291, 292, 293, 0, 0], [], [], [], [], [295, 0, 0], [], [297, 298, 0], [], [], [300, 301, 0]]
def ft_lay6 : List (List Nat) := [[], [], [304, 305, 306, 307, 308, 0, 0, 303, 0, 0], [], [], [], [], [], [], [0, 310, 311, 312, 0, 313, 314, 315, 316, 317, 0, 318, 319, 320, 0, 321, 322, 323, 324, 325, 0, 0, 0, 326, 327, 328, 0, 0, 0, 0, 0, 329, 0, 330, 0, 331, 0, 0, 0, 0, 0, 0, 0, 0, 332], [], [], [], [], [], [], [], [], [], [], [], [], [], [], [], [], [], [], [], [], [], [], []]
def ft_lays : List (List Nat) := ft_lay0 ++ (ft_lay1 ++ (ft_lay2 ++ (ft_lay3 ++ (ft_lay4 ++ (ft_lay5 ++ (ft_lay6))))))
def ft_sh (k : Nat) : Option (Nat ⊕ Nat × Nat) := ft_shapes[k]?
def ft_lay (k j : Nat) : Nat := (ft_lays.getD k []).getD j 0
/-- the length of an array cell -/
def ft_ln (k : Nat) : Nat := match ft_sh k with
  | some (.inr q) => q.2
  | _ => 0
/-- links to private members of nest mates -/
def ft_nests : List (String × Nat × MethodName × String) := [("ForwardingTable", 11, ⟨"ForwardingTable$State", "<init>", "()V"⟩, "ForwardingTable"), ("ForwardingTable$State", 29, ⟨"ForwardingTable$TrafficLog", "<init>", "()V"⟩, "ForwardingTable"), ("ForwardingTable$History", 17, ⟨"ForwardingTable$State", "<init>", "()V"⟩, "ForwardingTable"), ("ForwardingTable", 28, ⟨"ForwardingTable$Tape", "<init>", "()V"⟩, "ForwardingTable"), ("ForwardingTable", 51, ⟨"ForwardingTable$Compressor", "<init>", "()V"⟩, "ForwardingTable"), ("ForwardingTable", 68, ⟨"ForwardingTable$Choice", "<init>", "()V"⟩, "ForwardingTable"), ("ForwardingTable", 75, ⟨"ForwardingTable$SyncPlan", "<init>", "()V"⟩, "ForwardingTable"), ("ForwardingTable", 82, ⟨"ForwardingTable$Report", "<init>", "()V"⟩, "ForwardingTable"), ("ForwardingTable$Tape", 71, ⟨"ForwardingTable", "isAligned", "(JI)Z"⟩, "ForwardingTable"), ("ForwardingTable$Tape", 75, ⟨"ForwardingTable", "keyOf", "(JI)J"⟩, "ForwardingTable"), ("ForwardingTable$PrefixSet", 49, ⟨"ForwardingTable", "startOf", "(J)J"⟩, "ForwardingTable"), ("ForwardingTable$PrefixSet", 46, ⟨"ForwardingTable", "lengthOf", "(J)I"⟩, "ForwardingTable"), ("ForwardingTable$Cover", 53, ⟨"ForwardingTable", "startOf", "(J)J"⟩, "ForwardingTable"), ("ForwardingTable$Cover", 76, ⟨"ForwardingTable", "endOf", "(J)J"⟩, "ForwardingTable"), ("ForwardingTable$Compressor", 48, ⟨"ForwardingTable", "keyOf", "(JI)J"⟩, "ForwardingTable"), ("ForwardingTable$Compressor", 81, ⟨"ForwardingTable", "startOf", "(J)J"⟩, "ForwardingTable"), ("ForwardingTable$Compressor", 85, ⟨"ForwardingTable", "lengthOf", "(J)I"⟩, "ForwardingTable"), ("ForwardingTable$PrefixSet", 39, ⟨"ForwardingTable", "contains", "(JJ)Z"⟩, "ForwardingTable"), ("ForwardingTable$SyncPlan", 48, ⟨"ForwardingTable", "lengthOf", "(J)I"⟩, "ForwardingTable"), ("ForwardingTable$Report", 28, ⟨"ForwardingTable", "startOf", "(J)J"⟩, "ForwardingTable"), ("ForwardingTable$Report", 40, ⟨"ForwardingTable", "lengthOf", "(J)I"⟩, "ForwardingTable")]
end
section
/-! THE PURE MACHINE'S JUDGEMENT. Values: int | long | reference (number of a cell); the heap: h k j is what place j of cell k holds (references are not in it: ft_lay has them, they never change). ft_V K pc L st h R: method K, at pc with locals L, stack st and heap h, returns, and R holds of its answer and the heap then. ft_C K args h R: a call of K does so. -/
abbrev ftV : Type := Int ⊕ Int ⊕ Nat
abbrev ftH : Type := Nat → Nat → Int
abbrev ftM : Type := MethodName × ByteArray × Nat × Option FieldType × Room
def ft_val (ad : Nat → Nat) : ftV → Value
  | .inl z => .int (Int32.ofInt z)
  | .inr (.inl z) => .long (Int64.ofInt z)
  | .inr (.inr k) => .ref (ad k)
def ft_in (z : Int) : Prop := -2147483648 ≤ z ∧ z < 2147483648
def ft_inL (z : Int) : Prop := -9223372036854775808 ≤ z ∧ z < 9223372036854775808
def ft_ok : ftV → Prop
  | .inl z => ft_in z
  | .inr (.inl z) => ft_inL z
  | .inr (.inr _) => True
theorem ft_in_of (x : Int32) : ft_in x.toInt := ⟨by have := Int32.le_toInt x; simpa using this, by have := Int32.toInt_lt x; simpa using this⟩
theorem ft_inL_of (x : Int64) : ft_inL x.toInt := ⟨by have := Int64.le_toInt x; simpa using this, by have := Int64.toInt_lt x; simpa using this⟩
theorem ft_toI {z : Int} (h : ft_in z) : (Int32.ofInt z).toInt = z := Int32.toInt_ofInt_of_le (by simpa using h.1) (by simpa using h.2)
theorem ft_toL {z : Int} (h : ft_inL z) : (Int64.ofInt z).toInt = z := Int64.toInt_ofInt_of_le (by simpa using h.1) (by simpa using h.2)
theorem ft_bk (x : Int32) : Int32.ofInt x.toInt = x := Int32.ofInt_toInt x
theorem ft_bkL (x : Int64) : Int64.ofInt x.toInt = x := Int64.ofInt_toInt x
/-- the locals that are known -/
def ft_lv (ad : Nat → Nat) (L : List (Option ftV)) : List (Nat × Value) := L.zipIdx.filterMap fun q => q.1.map fun v => (q.2, ft_val ad v)
theorem ft_lv_mem {ad : Nat → Nat} {L : List (Option ftV)} {i : Nat} {w : Value} : (i, w) ∈ ft_lv ad L ↔ ∃ v, L[i]? = some (some v) ∧ w = ft_val ad v := by
  unfold ft_lv
  rw [List.mem_filterMap]
  constructor
  · rintro ⟨⟨o, j⟩, hm, he⟩
    rw [List.mem_zipIdx_iff_getElem?] at hm
    cases o with
    | none => simp at he
    | some v =>
      simp only [Option.map_some, Option.some.injEq, Prod.mk.injEq] at he
      obtain ⟨rfl, rfl⟩ := he
      exact ⟨v, hm, rfl⟩
  · rintro ⟨v, hv, rfl⟩
    exact ⟨(some v, i), by rw [List.mem_zipIdx_iff_getElem?]; exact hv, rfl⟩
def ft_isL : Option ftV → Bool
  | some (.inr (.inl _)) => true
  | _ => false
def ft_kl (L : List (Option ftV)) : Nat → List (Option ftV)
  | 0 => L
  | i + 1 => if ft_isL (L.getD i none) = true then L.set i none else L
def ft_st1 (L : List (Option ftV)) (i : Nat) (v : ftV) : List (Option ftV) := (ft_kl L i).set i (some v)
def ft_st2 (L : List (Option ftV)) (i : Nat) (v : ftV) : List (Option ftV) := ((ft_kl L i).set i (some v)).set (i + 1) none
theorem ft_kl_get {L : List (Option ftV)} {i j : Nat} {v : ftV} (h : (ft_kl L i)[j]? = some (some v)) : L[j]? = some (some v) ∧ ¬ (j + 1 = i ∧ ft_isL (some v) = true) := by
  cases i with
  | zero => exact ⟨h, fun q => by omega⟩
  | succ i =>
    simp only [ft_kl] at h
    by_cases c : ft_isL (L.getD i none) = true
    · rw [if_pos c] at h
      by_cases e : j = i
      · subst e
        rw [List.getElem?_set_self'] at h
        cases hq : L[j]? with
        | none => rw [hq] at h; simp at h
        | some o => rw [hq] at h; simp at h
      · rw [List.getElem?_set_ne (fun q => e q.symm)] at h
        exact ⟨h, fun q => e (by omega)⟩
    · rw [if_neg c] at h
      refine ⟨h, fun q => c ?_⟩
      have e : j = i := by omega
      subst e
      rw [List.getD_eq_getElem?_getD, h]
      exact q.2
theorem ft_cat {ad : Nat → Nat} {v : ftV} (h : (ft_val ad v).category = 2) : ft_isL (some v) = true := by
  rcases v with z | z | z
  · cases h
  · rfl
  · cases h
theorem ft_st1_has {ad : Nat → Nat} {ls : Array Slot} {nL : Nat} {L : List (Option ftV)} {i : Nat} {v : ftV} (h : lv_has ls nL ((i, ft_val ad v) :: (ft_lv ad L).filter (fun q => !(q.1 == i) && !(q.1 + 1 == i && q.2.category == 2)))) : lv_has ls nL (ft_lv ad (ft_st1 L i v)) := by
  refine ⟨h.1, h.2.1, fun q hq => h.2.2 q ?_⟩
  obtain ⟨j, w⟩ := q
  obtain ⟨u, hu, rfl⟩ := ft_lv_mem.mp hq
  unfold ft_st1 at hu
  by_cases e : j = i
  · subst e
    rw [List.getElem?_set_self'] at hu
    cases hq : (ft_kl L j)[j]? with
    | none => rw [hq] at hu; simp at hu
    | some o =>
      rw [hq] at hu
      simp only [Option.map_eq_map, Option.map_some, Function.const_apply, Option.some.injEq] at hu
      subst hu
      exact List.mem_cons_self
  · rw [List.getElem?_set_ne (fun q => e q.symm)] at hu
    obtain ⟨h1, h2⟩ := ft_kl_get hu
    refine List.mem_cons_of_mem _ (List.mem_filter.mpr ⟨ft_lv_mem.mpr ⟨u, h1, rfl⟩, ?_⟩)
    simp only [Bool.and_eq_true, Bool.not_eq_true', beq_eq_false_iff_ne, ne_eq, Bool.and_eq_false_iff, beq_iff_eq]
    refine ⟨e, ?_⟩
    by_cases c : j + 1 = i
    · exact Or.inr (fun q => h2 ⟨c, ft_cat q⟩)
    · exact Or.inl c
theorem ft_st2_has {ad : Nat → Nat} {ls : Array Slot} {nL : Nat} {L : List (Option ftV)} {i : Nat} {v : ftV} (h : lv_has ls nL ((i, ft_val ad v) :: (ft_lv ad L).filter (fun q => !(q.1 == i) && (!(q.1 == i + 1) && !(q.1 + 1 == i && q.2.category == 2))))) : lv_has ls nL (ft_lv ad (ft_st2 L i v)) := by
  refine ⟨h.1, h.2.1, fun q hq => h.2.2 q ?_⟩
  obtain ⟨j, w⟩ := q
  obtain ⟨u, hu, rfl⟩ := ft_lv_mem.mp hq
  unfold ft_st2 at hu
  by_cases e1 : j = i + 1
  · subst e1
    rw [List.getElem?_set_self'] at hu
    cases hq : ((ft_kl L i).set i (some v))[i + 1]? with
    | none => rw [hq] at hu; simp at hu
    | some o => rw [hq] at hu; simp at hu
  rw [List.getElem?_set_ne (fun q => e1 q.symm)] at hu
  by_cases e : j = i
  · subst e
    rw [List.getElem?_set_self'] at hu
    cases hq : (ft_kl L j)[j]? with
    | none => rw [hq] at hu; simp at hu
    | some o =>
      rw [hq] at hu
      simp only [Option.map_eq_map, Option.map_some, Function.const_apply, Option.some.injEq] at hu
      subst hu
      exact List.mem_cons_self
  · rw [List.getElem?_set_ne (fun q => e q.symm)] at hu
    obtain ⟨h1, h2⟩ := ft_kl_get hu
    refine List.mem_cons_of_mem _ (List.mem_filter.mpr ⟨ft_lv_mem.mpr ⟨u, h1, rfl⟩, ?_⟩)
    simp only [Bool.and_eq_true, Bool.not_eq_true', beq_eq_false_iff_ne, ne_eq, Bool.and_eq_false_iff, beq_iff_eq]
    refine ⟨e, e1, ?_⟩
    by_cases c : j + 1 = i
    · exact Or.inr (fun q => h2 ⟨c, ft_cat q⟩)
    · exact Or.inl c
theorem ft_set_mem {L : List (Option ftV)} {i : Nat} {o : Option ftV} {v : ftV} (h : some v ∈ L.set i o) : some v ∈ L ∨ some v = o := (List.mem_or_eq_of_mem_set h)
theorem ft_kl_mem {L : List (Option ftV)} {i : Nat} {v : ftV} (h : some v ∈ ft_kl L i) : some v ∈ L := by
  cases i with
  | zero => exact h
  | succ i =>
    simp only [ft_kl] at h
    split at h
    · rcases ft_set_mem h with h | h
      · exact h
      · cases h
    · exact h
theorem ft_st1_mem {L : List (Option ftV)} {i : Nat} {v w : ftV} (h : some w ∈ ft_st1 L i v) : some w ∈ L ∨ w = v := by
  rcases ft_set_mem h with h | h
  · exact Or.inl (ft_kl_mem h)
  · exact Or.inr (Option.some.inj h)
theorem ft_st2_mem {L : List (Option ftV)} {i : Nat} {v w : ftV} (h : some w ∈ ft_st2 L i v) : some w ∈ L ∨ w = v := by
  rcases ft_set_mem h with h | h
  · rcases ft_set_mem h with h | h
    · exact Or.inl (ft_kl_mem h)
    · exact Or.inr (Option.some.inj h)
  · cases h
/-- the locals that stay known, by a mask -/
def ft_mask : List (Option ftV) → List Bool → List (Option ftV)
  | o :: L, b :: M => (if b then o else none) :: ft_mask L M
  | _, _ => []
theorem ft_mask_get : ∀ (L : List (Option ftV)) (M : List Bool) (i : Nat) (v : ftV), (ft_mask L M)[i]? = some (some v) → L[i]? = some (some v)
  | o :: L, b :: M, 0, v, h => by
    cases b
    · simp [ft_mask] at h
    · simpa [ft_mask] using h
  | o :: L, b :: M, i + 1, v, h => by
    simp only [ft_mask, List.getElem?_cons_succ] at h ⊢
    exact ft_mask_get L M i v h
  | [], _, i, v, h => by simp [ft_mask] at h
  | _ :: _, [], i, v, h => by simp [ft_mask] at h
/-! the heap's cells -/
def ft_flds (ad : Nat → Nat) (h : ftH) (k ci : Nat) : List Value := (ft_fk ci).mapIdx fun j t => if t = 0 then .int (Int32.ofInt (h k j)) else if t = 1 then .long (Int64.ofInt (h k j)) else .ref (ad (ft_lay k j))
def ft_arr (ad : Nat → Nat) (h : ftH) (k t : Nat) : (Nat → Int32) ⊕ (Nat → Int64) ⊕ (Nat → UInt32) ⊕ (Nat → UInt64) ⊕ (Nat → Option Nat) :=
  if t = 1 then .inr (.inl fun j => Int64.ofInt (h k j)) else if t < 4 then .inl fun j => Int32.ofInt (h k j) else .inr (.inr (.inr (.inr fun j => some (ad (ft_lay k j)))))
def ft_cell (ad : Nat → Nat) (cA : Nat → ClassId) (h : ftH) (k : Nat) : Nat ⊕ Nat × Nat → va_E
  | .inl ci => .inr (ci, ft_flds ad h k ci)
  | .inr q => .inl (cA q.1, q.2, ft_arr ad h k q.1)
def ft_ws (ad : Nat → Nat) (cA : Nat → ClassId) (h : ftH) : va_W := ft_shapes.mapIdx fun k sh => (ad k, ft_cell ad cA h k sh)
def ft_tys (cA : Nat → ClassId) : List (ClassId × FieldType) := [(cA 0, .int), (cA 1, .long), (cA 2, .byte), (cA 3, .boolean), (cA 4, .object "ForwardingTable$State"), (cA 5, .array .int), (cA 6, .array .long)]
def ft_A (ad : Nat → Nat) : Nat → Prop := fun q => ∃ k, k < ft_shapes.length ∧ q = ad k
theorem ft_ws_get {ad : Nat → Nat} {cA : Nat → ClassId} {h : ftH} {k : Nat} {sh : Nat ⊕ Nat × Nat} (hk : ft_sh k = some sh) : (ft_ws ad cA h)[k]? = some (ad k, ft_cell ad cA h k sh) := by
  unfold ft_sh at hk
  simp [ft_ws, List.getElem?_mapIdx, hk]
/-- is it a long that place j of cell k holds? -/
def ft_lg (k j : Nat) : Bool := match ft_sh k with
  | some (.inl ci) => (ft_fk ci).getD j 0 == 1
  | some (.inr q) => q.1 == 1
  | none => false
def ft_wf (h : ftH) : Prop := ∀ k j, if ft_lg k j = true then ft_inL (h k j) else ft_in (h k j)
def ft_hs (h : ftH) (k j : Nat) (z : Int) : ftH := fun k' j' => if k' = k ∧ j' = j then z else h k' j'
theorem ft_wf_hs {h : ftH} {k j : Nat} {z : Int} (hw : ft_wf h) (hz : if ft_lg k j = true then ft_inL z else ft_in z) : ft_wf (ft_hs h k j z) := by
  intro a b
  unfold ft_hs
  by_cases c : a = k ∧ b = j
  · rw [if_pos c, c.1, c.2]
    exact hz
  · rw [if_neg c]
    exact hw a b
def ft_E (ad : Nat → Nat) (U : State) (_ : Heap) : Prop := (∀ q ∈ ft_nests, va_Nw (.methodLinkNest q.1 q.2.1 q.2.2.1 q.2.2.2) U) ∧ (∀ k, k < ft_shapes.length → ad k = ad k)
theorem ft_E.same {ad : Nat → Nat} {u U : State} {H : Heap} (h : u.vm = U.vm) (hE : ft_E ad u H) : ft_E ad U H := ⟨fun q hq => (hE.1 q hq).same rfl h, hE.2⟩
theorem ft_E.warm {ad : Nat → Nat} {s U : State} {H : Heap} (hW : s.WarmedH U.vm) (hE : ft_E ad s H) : ft_E ad U H := ⟨fun q hq => (hE.1 q hq).warmM hW, hE.2⟩
theorem ft_E.kept {ad : Nat → Nat} {U : State} {H H1 : Heap} (_ : ∀ a : Nat, a < H.size → ¬ ft_A ad a → H1[a]? = H[a]?) (hE : ft_E ad U H) : ft_E ad U H1 := hE
/-- what a call finds, and leaves -/
def ft_P0 (D : va_G) (ad : Nat → Nat) (cA : Nat → ClassId) (h : ftH) (U : State) : Prop := va_P D ft_cls (ft_ws ad cA h) U.heap ∧ va_K D ft_cls (ft_tys cA) U ∧ va_D (ft_A ad) (ft_ws ad cA h) ∧ ft_wf h
def ft_Q (ret : Option FieldType) (R : Option ftV → ftH → Prop) (D : va_G) (ad : Nat → Nat) (cA : Nat → ClassId) : Array Value → State → Outcome → State → Prop := match ret with
  | none => va_Qv (fun h' : ftH => R none h') (fun h' t => ft_P0 D ad cA h' t) (ft_A ad)
  | some .long => va_Ql (fun r (h' : ftH) => R (some (.inr (.inl r.toInt))) h') (fun h' t => ft_P0 D ad cA h' t) (ft_A ad)
  | some _ => va_Qi (fun r (h' : ftH) => R (some (.inl r.toInt)) h') (fun h' t => ft_P0 D ad cA h' t) (ft_A ad)
def ft_Cx (K : ftM) (p : Program) (s : State) (m : MethodId) (args : Array Value) (meth : Method) (c : Code) (D : va_G) (ad : Nat → Nat) (cA : Nat → ClassId) : Prop :=
  p.tables.exec = Jvm.exec ∧ c.code = K.2.1 ∧ meth.sig.returnType = K.2.2.2.1 ∧ c.maxLocals = K.2.2.1 ∧ s.vm.findClass K.1.cls = some m.cls ∧ (∀ w ∈ lw_tbl, goodWord w = true → w.before args s = true) ∧ meth.locks = false ∧ va_K D ft_cls (ft_tys cA) s ∧ ft_E ad s s.heap
def ft_Rp (D : va_G) (ad : Nat → Nat) (cA : Nat → ClassId) (h : ftH) (H H0 : Heap) (locs : List Loc) : Prop := va_P D ft_cls (ft_ws ad cA h) H ∧ va_D (ft_A ad) (ft_ws ad cA h) ∧ va_S (ft_A ad) H0 H locs ∧ ft_wf h
def ft_V (K : ftM) (pc : Nat) (L : List (Option ftV)) (st : List ftV) (h : ftH) (R : Option ftV → ftH → Prop) : Prop :=
  ∀ (p : Program) (l : Launch) (e : Env) (s : State) (m : MethodId) (args : Array Value) (below : List Frame) (meth : Method) (c : Code) (D : va_G) (ad : Nat → Nat) (cA : Nat → ClassId) (H : Heap) (locs : List Loc) (ls : Array Slot),
    ft_Cx K p s m args meth c D ad cA → ft_Rp D ad cA h H s.heap locs → (∀ v, some v ∈ L → ft_ok v) → (∀ v ∈ st, ft_ok v) → lv_has ls K.2.2.1 (ft_lv ad L) →
    W p l e K.2.2.2.2 s m args below meth c H locs 0 0 (MQ below (ft_Q K.2.2.2.1 R D ad cA) args s 0 0 (ft_A ad)) (F0 m pc ls (st.map (ft_val ad)))
def ft_wk (K : ftM) : List Cond := .code K.1 K.2.1 K.2.2.1 K.2.2.2.1 :: lw_tbl.filter goodWord
def ft_C (K : ftM) (args : List ftV) (h : ftH) (R : Option ftV → ftH → Prop) : Prop :=
  ∀ (l : Launch) (D : va_G) (ad : Nat → Nat) (cA : Nat → ClassId), Met l K.1 (ft_wk K) K.2.2.2.2 (va_Pc (args.map (ft_val ad)) (fun U => ft_P0 D ad cA h U ∧ ft_E ad U U.heap ∧ ∀ v ∈ args, ft_ok v)) (ft_Q K.2.2.2.1 R D ad cA) 0 0 (ft_A ad)
end
section
/-! THE RULES: one an instruction, each out of the kit's row -/
section FVR
variable {K : ftM} {pc pc' : Nat} {L L' : List (Option ftV)} {st : List ftV} {h : ftH} {R : Option ftV → ftH → Prop}
theorem ft_okh {v : ftV} {st : List ftV} (h : ∀ u ∈ v :: st, ft_ok u) : ft_ok v := h v List.mem_cons_self
theorem ft_okt {v : ftV} {st : List ftV} (h : ∀ u ∈ v :: st, ft_ok u) : ∀ u ∈ st, ft_ok u := fun u hu => h u (List.mem_cons_of_mem _ hu)
theorem ft_okc {v : ftV} {st : List ftV} (h1 : ft_ok v) (h2 : ∀ u ∈ st, ft_ok u) : ∀ u ∈ v :: st, ft_ok u := fun u hu => by
  rcases List.mem_cons.mp hu with rfl | hu
  · exact h1
  · exact h2 u hu
theorem ft_lget {ad : Nat → Nat} {ls : Array Slot} {nL : Nat} (hl : lv_has ls nL (ft_lv ad L)) {i : Nat} {v : ftV} (hi : L[i]? = some (some v)) : ls[i]? = some (.val (ft_val ad v)) := hl.2.2 (i, ft_val ad v) (ft_lv_mem.mpr ⟨v, hi, rfl⟩)
theorem ft_eqI {x y : Int} (hx : ft_in x) (hy : ft_in y) : Int32.ofInt x = Int32.ofInt y ↔ x = y := by rw [← Int32.toInt_inj, ft_toI hx, ft_toI hy]
theorem ft_ltI {x y : Int} (hx : ft_in x) (hy : ft_in y) : Int32.ofInt x < Int32.ofInt y ↔ x < y := by rw [Int32.lt_iff_toInt_lt, ft_toI hx, ft_toI hy]
theorem ft_leI {x y : Int} (hx : ft_in x) (hy : ft_in y) : Int32.ofInt x ≤ Int32.ofInt y ↔ x ≤ y := by rw [Int32.le_iff_toInt_le, ft_toI hx, ft_toI hy]
theorem ft_eqL {x y : Int} (hx : ft_inL x) (hy : ft_inL y) : Int64.ofInt x = Int64.ofInt y ↔ x = y := by rw [← Int64.toInt_inj, ft_toL hx, ft_toL hy]
theorem ft_ltL {x y : Int} (hx : ft_inL x) (hy : ft_inL y) : Int64.ofInt x < Int64.ofInt y ↔ x < y := by rw [Int64.lt_iff_toInt_lt, ft_toL hx, ft_toL hy]
theorem ft_leL {x y : Int} (hx : ft_inL x) (hy : ft_inL y) : Int64.ofInt x ≤ Int64.ofInt y ↔ x ≤ y := by rw [Int64.le_iff_toInt_le, ft_toL hx, ft_toL hy]
theorem ft_in0 : ft_in 0 := ⟨by decide, by decide⟩
theorem ft_0 : (0 : Int32) = Int32.ofInt 0 := rfl
def ft_inB (n : Int) : Bool := decide (-2147483648 ≤ n) && decide (n < 2147483648)
theorem ft_inB_ok {n : Int} (h : ft_inB n = true) : ft_in n := by
  unfold ft_inB at h
  rw [Bool.and_eq_true, decide_eq_true_eq, decide_eq_true_eq] at h
  exact h

theorem fv_iconst {n : Int} (hd : decode K.2.1 pc = .ok (.iconst n, 1)) (hp : pc + 1 = pc') (hn : ft_inB n = true) (k : ft_V K pc' L (.inl n :: st) h R) : ft_V K pc L st h R := by
  intro p l e s m args below meth c D ad cA H locs ls hC hR hL hS hl
  subst hp
  exact lv_iconst hC.1 hC.2.1 hd rfl (k p l e s m args below meth c D ad cA H locs ls hC hR hL (ft_okc (ft_inB_ok hn) hS) hl)
theorem ft_bip {n : Int} (h1 : -128 ≤ n) (h2 : n < 128) : (Int8.ofInt n).toInt32 = Int32.ofInt n := by
  rw [← Int32.toInt_inj, Int8.toInt_toInt32, Int8.toInt_ofInt_of_le (by simpa using h1) (by simpa using h2), ft_toI ⟨by omega, by omega⟩]
theorem ft_sip {n : Int} (h1 : -32768 ≤ n) (h2 : n < 32768) : (Int16.ofInt n).toInt32 = Int32.ofInt n := by
  rw [← Int32.toInt_inj, Int16.toInt_toInt32, Int16.toInt_ofInt_of_le (by simpa using h1) (by simpa using h2), ft_toI ⟨by omega, by omega⟩]
def ft_b8 (n : Int) : Bool := decide (-128 ≤ n) && decide (n < 128)
def ft_b16 (n : Int) : Bool := decide (-32768 ≤ n) && decide (n < 32768)
theorem fv_bipush {n : Int} (hd : decode K.2.1 pc = .ok (.bipush n, 2)) (hp : pc + 2 = pc') (hn : ft_b8 n = true) (k : ft_V K pc' L (.inl n :: st) h R) : ft_V K pc L st h R := by
  intro p l e s m args below meth c D ad cA H locs ls hC hR hL hS hl
  subst hp
  unfold ft_b8 at hn
  rw [Bool.and_eq_true, decide_eq_true_eq, decide_eq_true_eq] at hn
  exact lv_bipush hC.1 hC.2.1 hd (ft_bip hn.1 hn.2) (k p l e s m args below meth c D ad cA H locs ls hC hR hL (ft_okc (show ft_in n from ⟨by omega, by omega⟩) hS) hl)
theorem fv_sipush {n : Int} (hd : decode K.2.1 pc = .ok (.sipush n, 3)) (hp : pc + 3 = pc') (hn : ft_b16 n = true) (k : ft_V K pc' L (.inl n :: st) h R) : ft_V K pc L st h R := by
  intro p l e s m args below meth c D ad cA H locs ls hC hR hL hS hl
  subst hp
  unfold ft_b16 at hn
  rw [Bool.and_eq_true, decide_eq_true_eq, decide_eq_true_eq] at hn
  exact lv_sipush hC.1 hC.2.1 hd (ft_sip hn.1 hn.2) (k p l e s m args below meth c D ad cA H locs ls hC hR hL (ft_okc (show ft_in n from ⟨by omega, by omega⟩) hS) hl)
theorem fv_lconst {n : Fin 2} {z : Int} (hd : decode K.2.1 pc = .ok (.lconst n, 1)) (hp : pc + 1 = pc') (hz : ((n : Nat) : Int) = z) (k : ft_V K pc' L (.inr (.inl z) :: st) h R) : ft_V K pc L st h R := by
  intro p l e s m args below meth c D ad cA H locs ls hC hR hL hS hl
  subst hp
  have hz' : ft_inL z := by have := n.2; exact ⟨by omega, by omega⟩
  exact lv_lconst hC.1 hC.2.1 hd (by rw [← hz]; rfl) (k p l e s m args below meth c D ad cA H locs ls hC hR hL (ft_okc (show ft_ok (.inr (.inl z)) from hz') hS) hl)
/-- a word of the tables -/
def ft_g (w : Cond) : Prop := w ∈ lw_tbl ∧ goodWord w = true
theorem ft_gt {w : Cond} (i : Nat) (h : tables_1[i]? = some w) (hg : goodWord w = true) : ft_g w := ⟨List.mem_append_right _ (List.mem_of_getElem? h), hg⟩
theorem ft_gs {w : Cond} (i : Nat) (h : (k2_sels lw_privs)[i]? = some w) (hg : goodWord w = true) : ft_g w := ⟨List.mem_append_left _ (List.mem_of_getElem? h), hg⟩
theorem fv_ldc {idx : Nat} {v : Int32} {z : Int} (hd : decode K.2.1 pc = .ok (.ldc idx, 2)) (hp : pc + 2 = pc') (hw : ft_g (.constant K.1.cls idx v)) (hz : v.toInt = z) (k : ft_V K pc' L (.inl z :: st) h R) : ft_V K pc L st h R := by
  intro p l e s m args below meth c D ad cA H locs ls hC hR hL hS hl
  subst hp
  subst hz
  have t := k p l e s m args below meth c D ad cA H locs ls hC hR hL (ft_okc (show ft_ok (.inl v.toInt) from ft_in_of v) hS) hl
  simp only [List.map_cons, ft_val, ft_bk] at t
  exact lv_ldc hC.1 hC.2.1 hC.2.2.2.2.1 (hC.2.2.2.2.2.1 _ hw.1 hw.2) hd t
theorem fv_ldc2 {idx : Nat} {v : Int64} {z : Int} (hd : decode K.2.1 pc = .ok (.ldc2_w idx, 3)) (hp : pc + 3 = pc') (hw : ft_g (.constantLong K.1.cls idx v)) (hz : v.toInt = z) (k : ft_V K pc' L (.inr (.inl z) :: st) h R) : ft_V K pc L st h R := by
  intro p l e s m args below meth c D ad cA H locs ls hC hR hL hS hl
  subst hp
  subst hz
  have t := k p l e s m args below meth c D ad cA H locs ls hC hR hL (ft_okc (show ft_ok (.inr (.inl v.toInt)) from ft_inL_of v) hS) hl
  simp only [List.map_cons, ft_val, ft_bkL] at t
  exact lv_ldc2 hC.1 hC.2.1 hC.2.2.2.2.1 (hC.2.2.2.2.2.1 _ hw.1 hw.2) hd t
theorem fv_iload_n {n : Fin 4} {x : Int} (hd : decode K.2.1 pc = .ok (.iload_n n, 1)) (hp : pc + 1 = pc') (hi : L[(n : Nat)]? = some (some (.inl x))) (k : ft_V K pc' L (.inl x :: st) h R) : ft_V K pc L st h R := by
  intro p l e s m args below meth c D ad cA H locs ls hC hR hL hS hl
  subst hp
  exact lv_iload_n hC.1 hC.2.1 hd rfl (ft_lget hl hi) (k p l e s m args below meth c D ad cA H locs ls hC hR hL (ft_okc (hL _ (List.mem_of_getElem? hi)) hS) hl)
theorem fv_iload {n : Nat} {x : Int} (hd : decode K.2.1 pc = .ok (.iload n, 2)) (hp : pc + 2 = pc') (hi : L[n]? = some (some (.inl x))) (k : ft_V K pc' L (.inl x :: st) h R) : ft_V K pc L st h R := by
  intro p l e s m args below meth c D ad cA H locs ls hC hR hL hS hl
  subst hp
  exact lv_iload hC.1 hC.2.1 hd (ft_lget hl hi) (k p l e s m args below meth c D ad cA H locs ls hC hR hL (ft_okc (hL _ (List.mem_of_getElem? hi)) hS) hl)
theorem fv_lload_n {n : Fin 4} {x : Int} (hd : decode K.2.1 pc = .ok (.lload_n n, 1)) (hp : pc + 1 = pc') (hi : L[(n : Nat)]? = some (some (.inr (.inl x)))) (k : ft_V K pc' L (.inr (.inl x) :: st) h R) : ft_V K pc L st h R := by
  intro p l e s m args below meth c D ad cA H locs ls hC hR hL hS hl
  subst hp
  exact lv_lload_n hC.1 hC.2.1 hd rfl (ft_lget hl hi) (k p l e s m args below meth c D ad cA H locs ls hC hR hL (ft_okc (hL _ (List.mem_of_getElem? hi)) hS) hl)
theorem fv_lload {n : Nat} {x : Int} (hd : decode K.2.1 pc = .ok (.lload n, 2)) (hp : pc + 2 = pc') (hi : L[n]? = some (some (.inr (.inl x)))) (k : ft_V K pc' L (.inr (.inl x) :: st) h R) : ft_V K pc L st h R := by
  intro p l e s m args below meth c D ad cA H locs ls hC hR hL hS hl
  subst hp
  exact lv_lload hC.1 hC.2.1 hd (ft_lget hl hi) (k p l e s m args below meth c D ad cA H locs ls hC hR hL (ft_okc (hL _ (List.mem_of_getElem? hi)) hS) hl)
theorem fv_aload_n {n : Fin 4} {a : Nat} (hd : decode K.2.1 pc = .ok (.aload_n n, 1)) (hp : pc + 1 = pc') (hi : L[(n : Nat)]? = some (some (.inr (.inr a)))) (k : ft_V K pc' L (.inr (.inr a) :: st) h R) : ft_V K pc L st h R := by
  intro p l e s m args below meth c D ad cA H locs ls hC hR hL hS hl
  subst hp
  exact lv_aload_n hC.1 hC.2.1 hd rfl (ft_lget hl hi) (k p l e s m args below meth c D ad cA H locs ls hC hR hL (ft_okc (hL _ (List.mem_of_getElem? hi)) hS) hl)
theorem fv_aload {n : Nat} {a : Nat} (hd : decode K.2.1 pc = .ok (.aload n, 2)) (hp : pc + 2 = pc') (hi : L[n]? = some (some (.inr (.inr a)))) (k : ft_V K pc' L (.inr (.inr a) :: st) h R) : ft_V K pc L st h R := by
  intro p l e s m args below meth c D ad cA H locs ls hC hR hL hS hl
  subst hp
  exact lv_aload hC.1 hC.2.1 hd (ft_lget hl hi) (k p l e s m args below meth c D ad cA H locs ls hC hR hL (ft_okc (hL _ (List.mem_of_getElem? hi)) hS) hl)
theorem fv_istore_n {n : Fin 4} {x : Int} (hd : decode K.2.1 pc = .ok (.istore_n n, 1)) (hp : pc + 1 = pc') (hn : (n : Nat) < K.2.2.1) (hL2 : ft_st1 L (n : Nat) (.inl x) = L') (k : ft_V K pc' L' st h R) : ft_V K pc L (.inl x :: st) h R := by
  intro p l e s m args below meth c D ad cA H locs ls hC hR hL hS hl
  subst hp
  subst hL2
  exact lv_istore_n hC.1 hC.2.1 hd rfl hl hn rfl (fun ls' hl' => k p l e s m args below meth c D ad cA H locs ls' hC hR (fun v hv => by
    rcases ft_st1_mem hv with q | rfl
    · exact hL v q
    · exact ft_okh hS) (ft_okt hS) (ft_st1_has hl'))
theorem fv_istore {n : Nat} {x : Int} (hd : decode K.2.1 pc = .ok (.istore n, 2)) (hp : pc + 2 = pc') (hn : n < K.2.2.1) (hL2 : ft_st1 L n (.inl x) = L') (k : ft_V K pc' L' st h R) : ft_V K pc L (.inl x :: st) h R := by
  intro p l e s m args below meth c D ad cA H locs ls hC hR hL hS hl
  subst hp
  subst hL2
  exact lv_istore hC.1 hC.2.1 hd hl hn rfl (fun ls' hl' => k p l e s m args below meth c D ad cA H locs ls' hC hR (fun v hv => by
    rcases ft_st1_mem hv with q | rfl
    · exact hL v q
    · exact ft_okh hS) (ft_okt hS) (ft_st1_has hl'))
theorem fv_lstore_n {n : Fin 4} {x : Int} (hd : decode K.2.1 pc = .ok (.lstore_n n, 1)) (hp : pc + 1 = pc') (hn : (n : Nat) + 1 < K.2.2.1) (hL2 : ft_st2 L (n : Nat) (.inr (.inl x)) = L') (k : ft_V K pc' L' st h R) : ft_V K pc L (.inr (.inl x) :: st) h R := by
  intro p l e s m args below meth c D ad cA H locs ls hC hR hL hS hl
  subst hp
  subst hL2
  exact lv_lstore_n hC.1 hC.2.1 hd rfl hl hn rfl (fun ls' hl' => k p l e s m args below meth c D ad cA H locs ls' hC hR (fun v hv => by
    rcases ft_st2_mem hv with q | rfl
    · exact hL v q
    · exact ft_okh hS) (ft_okt hS) (ft_st2_has hl'))
theorem fv_lstore {n : Nat} {x : Int} (hd : decode K.2.1 pc = .ok (.lstore n, 2)) (hp : pc + 2 = pc') (hn : n + 1 < K.2.2.1) (hL2 : ft_st2 L n (.inr (.inl x)) = L') (k : ft_V K pc' L' st h R) : ft_V K pc L (.inr (.inl x) :: st) h R := by
  intro p l e s m args below meth c D ad cA H locs ls hC hR hL hS hl
  subst hp
  subst hL2
  exact lv_lstore hC.1 hC.2.1 hd hl hn rfl (fun ls' hl' => k p l e s m args below meth c D ad cA H locs ls' hC hR (fun v hv => by
    rcases ft_st2_mem hv with q | rfl
    · exact hL v q
    · exact ft_okh hS) (ft_okt hS) (ft_st2_has hl'))
theorem fv_astore_n {n : Fin 4} {x : Nat} (hd : decode K.2.1 pc = .ok (.astore_n n, 1)) (hp : pc + 1 = pc') (hn : (n : Nat) < K.2.2.1) (hL2 : ft_st1 L (n : Nat) (.inr (.inr x)) = L') (k : ft_V K pc' L' st h R) : ft_V K pc L (.inr (.inr x) :: st) h R := by
  intro p l e s m args below meth c D ad cA H locs ls hC hR hL hS hl
  subst hp
  subst hL2
  exact lv_astore_n hC.1 hC.2.1 hd rfl hl hn rfl (fun ls' hl' => k p l e s m args below meth c D ad cA H locs ls' hC hR (fun v hv => by
    rcases ft_st1_mem hv with q | rfl
    · exact hL v q
    · exact ft_okh hS) (ft_okt hS) (ft_st1_has hl'))
theorem fv_astore {n : Nat} {x : Nat} (hd : decode K.2.1 pc = .ok (.astore n, 2)) (hp : pc + 2 = pc') (hn : n < K.2.2.1) (hL2 : ft_st1 L n (.inr (.inr x)) = L') (k : ft_V K pc' L' st h R) : ft_V K pc L (.inr (.inr x) :: st) h R := by
  intro p l e s m args below meth c D ad cA H locs ls hC hR hL hS hl
  subst hp
  subst hL2
  exact lv_astore hC.1 hC.2.1 hd hl hn rfl (fun ls' hl' => k p l e s m args below meth c D ad cA H locs ls' hC hR (fun v hv => by
    rcases ft_st1_mem hv with q | rfl
    · exact hL v q
    · exact ft_okh hS) (ft_okt hS) (ft_st1_has hl'))
def ft_add (x y : Int) : Int := (Int32.ofInt x + Int32.ofInt y).toInt
theorem fv_iinc {i : Nat} {n x : Int} (hd : decode K.2.1 pc = .ok (.iinc i n, 3)) (hp : pc + 3 = pc') (hi : L[i]? = some (some (.inl x))) (hn : i < K.2.2.1) (hL2 : ft_st1 L i (.inl (ft_add x n)) = L') (k : ft_V K pc' L' st h R) : ft_V K pc L st h R := by
  intro p l e s m args below meth c D ad cA H locs ls hC hR hL hS hl
  subst hp
  subst hL2
  obtain ⟨j, hj⟩ := List.getElem?_of_mem (ft_lv_mem.mpr ⟨_, hi, rfl⟩ : (i, ft_val ad (.inl x)) ∈ ft_lv ad L)
  have e9 : Int32.ofInt (ft_add x n) = Int32.ofInt x + Int32.ofInt n := ft_bk _
  exact lv_iinc hC.1 hC.2.1 hd hl hj e9.symm hn rfl (fun ls' hl' => k p l e s m args below meth c D ad cA H locs ls' hC hR (fun v hv => by
    rcases ft_st1_mem hv with q | rfl
    · exact hL v q
    · exact ft_in_of _) hS (ft_st1_has hl'))
theorem fv_iadd {x y : Int} (hd : decode K.2.1 pc = .ok (.iadd, 1)) (hp : pc + 1 = pc') (k : ft_V K pc' L (.inl (ft_add x y) :: st) h R) : ft_V K pc L (.inl y :: .inl x :: st) h R := by
  intro p l e s m args below meth c D ad cA H locs ls hC hR hL hS hl
  subst hp
  have t := k p l e s m args below meth c D ad cA H locs ls hC hR hL (ft_okc (show ft_ok (.inl (ft_add x y)) from ft_in_of _) (ft_okt (ft_okt hS))) hl
  simp only [List.map_cons, ft_val, ft_add, ft_bk] at t
  exact lv_iadd hC.1 hC.2.1 hd t
def ft_sub (x y : Int) : Int := (let x := Int32.ofInt x; let y := Int32.ofInt y; x - y).toInt
theorem fv_isub {x y : Int} (hd : decode K.2.1 pc = .ok (.isub, 1)) (hp : pc + 1 = pc') (k : ft_V K pc' L (.inl (ft_sub x y) :: st) h R) : ft_V K pc L (.inl y :: .inl x :: st) h R := by
  intro p l e s m args below meth c D ad cA H locs ls hC hR hL hS hl
  subst hp
  have t := k p l e s m args below meth c D ad cA H locs ls hC hR hL (ft_okc (show ft_ok (.inl (ft_sub x y)) from ft_in_of _) (ft_okt (ft_okt hS))) hl
  simp only [List.map_cons, ft_val, ft_sub, ft_bk] at t
  exact lv_isub hC.1 hC.2.1 hd t
def ft_mul (x y : Int) : Int := (let x := Int32.ofInt x; let y := Int32.ofInt y; x * y).toInt
theorem fv_imul {x y : Int} (hd : decode K.2.1 pc = .ok (.imul, 1)) (hp : pc + 1 = pc') (k : ft_V K pc' L (.inl (ft_mul x y) :: st) h R) : ft_V K pc L (.inl y :: .inl x :: st) h R := by
  intro p l e s m args below meth c D ad cA H locs ls hC hR hL hS hl
  subst hp
  have t := k p l e s m args below meth c D ad cA H locs ls hC hR hL (ft_okc (show ft_ok (.inl (ft_mul x y)) from ft_in_of _) (ft_okt (ft_okt hS))) hl
  simp only [List.map_cons, ft_val, ft_mul, ft_bk] at t
  exact lv_imul hC.1 hC.2.1 hd t
def ft_and (x y : Int) : Int := (let x := Int32.ofInt x; let y := Int32.ofInt y; x &&& y).toInt
theorem fv_iand {x y : Int} (hd : decode K.2.1 pc = .ok (.iand, 1)) (hp : pc + 1 = pc') (k : ft_V K pc' L (.inl (ft_and x y) :: st) h R) : ft_V K pc L (.inl y :: .inl x :: st) h R := by
  intro p l e s m args below meth c D ad cA H locs ls hC hR hL hS hl
  subst hp
  have t := k p l e s m args below meth c D ad cA H locs ls hC hR hL (ft_okc (show ft_ok (.inl (ft_and x y)) from ft_in_of _) (ft_okt (ft_okt hS))) hl
  simp only [List.map_cons, ft_val, ft_and, ft_bk] at t
  exact lv_iand hC.1 hC.2.1 hd t
def ft_or (x y : Int) : Int := (let x := Int32.ofInt x; let y := Int32.ofInt y; x ||| y).toInt
theorem fv_ior {x y : Int} (hd : decode K.2.1 pc = .ok (.ior, 1)) (hp : pc + 1 = pc') (k : ft_V K pc' L (.inl (ft_or x y) :: st) h R) : ft_V K pc L (.inl y :: .inl x :: st) h R := by
  intro p l e s m args below meth c D ad cA H locs ls hC hR hL hS hl
  subst hp
  have t := k p l e s m args below meth c D ad cA H locs ls hC hR hL (ft_okc (show ft_ok (.inl (ft_or x y)) from ft_in_of _) (ft_okt (ft_okt hS))) hl
  simp only [List.map_cons, ft_val, ft_or, ft_bk] at t
  exact lv_ior hC.1 hC.2.1 hd t
def ft_xor (x y : Int) : Int := (let x := Int32.ofInt x; let y := Int32.ofInt y; x ^^^ y).toInt
theorem fv_ixor {x y : Int} (hd : decode K.2.1 pc = .ok (.ixor, 1)) (hp : pc + 1 = pc') (k : ft_V K pc' L (.inl (ft_xor x y) :: st) h R) : ft_V K pc L (.inl y :: .inl x :: st) h R := by
  intro p l e s m args below meth c D ad cA H locs ls hC hR hL hS hl
  subst hp
  have t := k p l e s m args below meth c D ad cA H locs ls hC hR hL (ft_okc (show ft_ok (.inl (ft_xor x y)) from ft_in_of _) (ft_okt (ft_okt hS))) hl
  simp only [List.map_cons, ft_val, ft_xor, ft_bk] at t
  exact lv_ixor hC.1 hC.2.1 hd t
def ft_shl (x y : Int) : Int := (let x := Int32.ofInt x; let y := Int32.ofInt y; x <<< (y &&& 31)).toInt
theorem fv_ishl {x y : Int} (hd : decode K.2.1 pc = .ok (.ishl, 1)) (hp : pc + 1 = pc') (k : ft_V K pc' L (.inl (ft_shl x y) :: st) h R) : ft_V K pc L (.inl y :: .inl x :: st) h R := by
  intro p l e s m args below meth c D ad cA H locs ls hC hR hL hS hl
  subst hp
  have t := k p l e s m args below meth c D ad cA H locs ls hC hR hL (ft_okc (show ft_ok (.inl (ft_shl x y)) from ft_in_of _) (ft_okt (ft_okt hS))) hl
  simp only [List.map_cons, ft_val, ft_shl, ft_bk] at t
  exact lv_ishl hC.1 hC.2.1 hd t
def ft_shr (x y : Int) : Int := (let x := Int32.ofInt x; let y := Int32.ofInt y; x >>> (y &&& 31)).toInt
theorem fv_ishr {x y : Int} (hd : decode K.2.1 pc = .ok (.ishr, 1)) (hp : pc + 1 = pc') (k : ft_V K pc' L (.inl (ft_shr x y) :: st) h R) : ft_V K pc L (.inl y :: .inl x :: st) h R := by
  intro p l e s m args below meth c D ad cA H locs ls hC hR hL hS hl
  subst hp
  have t := k p l e s m args below meth c D ad cA H locs ls hC hR hL (ft_okc (show ft_ok (.inl (ft_shr x y)) from ft_in_of _) (ft_okt (ft_okt hS))) hl
  simp only [List.map_cons, ft_val, ft_shr, ft_bk] at t
  exact lv_ishr hC.1 hC.2.1 hd t
def ft_div (x y : Int) : Int := (let x := Int32.ofInt x; let y := Int32.ofInt y; x / y).toInt
theorem fv_idiv {x y : Int} (hd : decode K.2.1 pc = .ok (.idiv, 1)) (hp : pc + 1 = pc') (hne : ¬ y = 0) (k : ft_V K pc' L (.inl (ft_div x y) :: st) h R) : ft_V K pc L (.inl y :: .inl x :: st) h R := by
  intro p l e s m args below meth c D ad cA H locs ls hC hR hL hS hl
  subst hp
  have t := k p l e s m args below meth c D ad cA H locs ls hC hR hL (ft_okc (show ft_ok (.inl (ft_div x y)) from ft_in_of _) (ft_okt (ft_okt hS))) hl
  simp only [List.map_cons, ft_val, ft_div, ft_bk] at t
  exact lv_idiv hC.1 hC.2.1 hd (fun q => hne ((ft_eqI (ft_okh hS) ft_in0).mp q)) t
def ft_rem (x y : Int) : Int := (let x := Int32.ofInt x; let y := Int32.ofInt y; x - x / y * y).toInt
theorem fv_irem {x y : Int} (hd : decode K.2.1 pc = .ok (.irem, 1)) (hp : pc + 1 = pc') (hne : ¬ y = 0) (k : ft_V K pc' L (.inl (ft_rem x y) :: st) h R) : ft_V K pc L (.inl y :: .inl x :: st) h R := by
  intro p l e s m args below meth c D ad cA H locs ls hC hR hL hS hl
  subst hp
  have t := k p l e s m args below meth c D ad cA H locs ls hC hR hL (ft_okc (show ft_ok (.inl (ft_rem x y)) from ft_in_of _) (ft_okt (ft_okt hS))) hl
  simp only [List.map_cons, ft_val, ft_rem, ft_bk] at t
  exact lv_irem hC.1 hC.2.1 hd (fun q => hne ((ft_eqI (ft_okh hS) ft_in0).mp q)) t
def ft_addL (x y : Int) : Int := (let x := Int64.ofInt x; let y := Int64.ofInt y; x + y).toInt
theorem fv_ladd {x y : Int} (hd : decode K.2.1 pc = .ok (.ladd, 1)) (hp : pc + 1 = pc') (k : ft_V K pc' L (.inr (.inl (ft_addL x y)) :: st) h R) : ft_V K pc L (.inr (.inl y) :: .inr (.inl x) :: st) h R := by
  intro p l e s m args below meth c D ad cA H locs ls hC hR hL hS hl
  subst hp
  have t := k p l e s m args below meth c D ad cA H locs ls hC hR hL (ft_okc (show ft_ok (.inr (.inl (ft_addL x y))) from ft_inL_of _) (ft_okt (ft_okt hS))) hl
  simp only [List.map_cons, ft_val, ft_addL, ft_bkL] at t
  exact lv_ladd hC.1 hC.2.1 hd t
def ft_subL (x y : Int) : Int := (let x := Int64.ofInt x; let y := Int64.ofInt y; x - y).toInt
theorem fv_lsub {x y : Int} (hd : decode K.2.1 pc = .ok (.lsub, 1)) (hp : pc + 1 = pc') (k : ft_V K pc' L (.inr (.inl (ft_subL x y)) :: st) h R) : ft_V K pc L (.inr (.inl y) :: .inr (.inl x) :: st) h R := by
  intro p l e s m args below meth c D ad cA H locs ls hC hR hL hS hl
  subst hp
  have t := k p l e s m args below meth c D ad cA H locs ls hC hR hL (ft_okc (show ft_ok (.inr (.inl (ft_subL x y))) from ft_inL_of _) (ft_okt (ft_okt hS))) hl
  simp only [List.map_cons, ft_val, ft_subL, ft_bkL] at t
  exact lv_lsub hC.1 hC.2.1 hd t
def ft_andL (x y : Int) : Int := (let x := Int64.ofInt x; let y := Int64.ofInt y; x &&& y).toInt
theorem fv_land {x y : Int} (hd : decode K.2.1 pc = .ok (.land, 1)) (hp : pc + 1 = pc') (k : ft_V K pc' L (.inr (.inl (ft_andL x y)) :: st) h R) : ft_V K pc L (.inr (.inl y) :: .inr (.inl x) :: st) h R := by
  intro p l e s m args below meth c D ad cA H locs ls hC hR hL hS hl
  subst hp
  have t := k p l e s m args below meth c D ad cA H locs ls hC hR hL (ft_okc (show ft_ok (.inr (.inl (ft_andL x y))) from ft_inL_of _) (ft_okt (ft_okt hS))) hl
  simp only [List.map_cons, ft_val, ft_andL, ft_bkL] at t
  exact lv_land hC.1 hC.2.1 hd t
def ft_orL (x y : Int) : Int := (let x := Int64.ofInt x; let y := Int64.ofInt y; x ||| y).toInt
theorem fv_lor {x y : Int} (hd : decode K.2.1 pc = .ok (.lor, 1)) (hp : pc + 1 = pc') (k : ft_V K pc' L (.inr (.inl (ft_orL x y)) :: st) h R) : ft_V K pc L (.inr (.inl y) :: .inr (.inl x) :: st) h R := by
  intro p l e s m args below meth c D ad cA H locs ls hC hR hL hS hl
  subst hp
  have t := k p l e s m args below meth c D ad cA H locs ls hC hR hL (ft_okc (show ft_ok (.inr (.inl (ft_orL x y))) from ft_inL_of _) (ft_okt (ft_okt hS))) hl
  simp only [List.map_cons, ft_val, ft_orL, ft_bkL] at t
  exact lv_lor hC.1 hC.2.1 hd t
def ft_xorL (x y : Int) : Int := (let x := Int64.ofInt x; let y := Int64.ofInt y; x ^^^ y).toInt
theorem fv_lxor {x y : Int} (hd : decode K.2.1 pc = .ok (.lxor, 1)) (hp : pc + 1 = pc') (k : ft_V K pc' L (.inr (.inl (ft_xorL x y)) :: st) h R) : ft_V K pc L (.inr (.inl y) :: .inr (.inl x) :: st) h R := by
  intro p l e s m args below meth c D ad cA H locs ls hC hR hL hS hl
  subst hp
  have t := k p l e s m args below meth c D ad cA H locs ls hC hR hL (ft_okc (show ft_ok (.inr (.inl (ft_xorL x y))) from ft_inL_of _) (ft_okt (ft_okt hS))) hl
  simp only [List.map_cons, ft_val, ft_xorL, ft_bkL] at t
  exact lv_lxor hC.1 hC.2.1 hd t
def ft_ushr (x y : Int) : Int := ((Int32.ofInt x).toUInt32 >>> ((Int32.ofInt y).toUInt32 &&& Int32.toUInt32 31)).toInt32.toInt
theorem fv_iushr {x y : Int} (hd : decode K.2.1 pc = .ok (.iushr, 1)) (hp : pc + 1 = pc') (k : ft_V K pc' L (.inl (ft_ushr x y) :: st) h R) : ft_V K pc L (.inl y :: .inl x :: st) h R := by
  intro p l e s m args below meth c D ad cA H locs ls hC hR hL hS hl
  subst hp
  have t := k p l e s m args below meth c D ad cA H locs ls hC hR hL (ft_okc (show ft_ok (.inl (ft_ushr x y)) from ft_in_of _) (ft_okt (ft_okt hS))) hl
  simp only [List.map_cons, ft_val, ft_ushr, ft_bk] at t
  exact lv_iushr hC.1 hC.2.1 hd rfl t
def ft_shlL (x y : Int) : Int := (Int64.ofInt x <<< ((Int32.ofInt y).toInt64 &&& 63)).toInt
theorem fv_lshl {x y : Int} (hd : decode K.2.1 pc = .ok (.lshl, 1)) (hp : pc + 1 = pc') (k : ft_V K pc' L (.inr (.inl (ft_shlL x y)) :: st) h R) : ft_V K pc L (.inl y :: .inr (.inl x) :: st) h R := by
  intro p l e s m args below meth c D ad cA H locs ls hC hR hL hS hl
  subst hp
  have t := k p l e s m args below meth c D ad cA H locs ls hC hR hL (ft_okc (show ft_ok (.inr (.inl (ft_shlL x y))) from ft_inL_of _) (ft_okt (ft_okt hS))) hl
  simp only [List.map_cons, ft_val, ft_shlL, ft_bkL] at t
  exact lv_lshl hC.1 hC.2.1 hd rfl t
def ft_ushrL (x y : Int) : Int := ((Int64.ofInt x).toUInt64 >>> ((Int32.ofInt y).toInt64.toUInt64 &&& Int64.toUInt64 63)).toInt64.toInt
theorem fv_lushr {x y : Int} (hd : decode K.2.1 pc = .ok (.lushr, 1)) (hp : pc + 1 = pc') (k : ft_V K pc' L (.inr (.inl (ft_ushrL x y)) :: st) h R) : ft_V K pc L (.inl y :: .inr (.inl x) :: st) h R := by
  intro p l e s m args below meth c D ad cA H locs ls hC hR hL hS hl
  subst hp
  have t := k p l e s m args below meth c D ad cA H locs ls hC hR hL (ft_okc (show ft_ok (.inr (.inl (ft_ushrL x y))) from ft_inL_of _) (ft_okt (ft_okt hS))) hl
  simp only [List.map_cons, ft_val, ft_ushrL, ft_bkL] at t
  exact lv_lushr hC.1 hC.2.1 hd rfl t
theorem ft_i2l {x : Int} (hx : ft_in x) : (Int32.ofInt x).toInt64 = Int64.ofInt x := by
  rw [← Int64.toInt_inj, Int32.toInt_toInt64, ft_toI hx, ft_toL ⟨by have := hx.1; omega, by have := hx.2; omega⟩]
theorem fv_i2l {x : Int} (hd : decode K.2.1 pc = .ok (.i2l, 1)) (hp : pc + 1 = pc') (k : ft_V K pc' L (.inr (.inl x) :: st) h R) : ft_V K pc L (.inl x :: st) h R := by
  intro p l e s m args below meth c D ad cA H locs ls hC hR hL hS hl
  subst hp
  have hx : ft_in x := ft_okh hS
  exact lv_i2l hC.1 hC.2.1 hd (ft_i2l hx) (k p l e s m args below meth c D ad cA H locs ls hC hR hL (ft_okc (show ft_ok (.inr (.inl x)) from ⟨by have := hx.1; omega, by have := hx.2; omega⟩) (ft_okt hS)) hl)
def ft_l2i (x : Int) : Int := (Int64.ofInt x).toInt32.toInt
theorem fv_l2i {x : Int} (hd : decode K.2.1 pc = .ok (.l2i, 1)) (hp : pc + 1 = pc') (k : ft_V K pc' L (.inl (ft_l2i x) :: st) h R) : ft_V K pc L (.inr (.inl x) :: st) h R := by
  intro p l e s m args below meth c D ad cA H locs ls hC hR hL hS hl
  subst hp
  have t := k p l e s m args below meth c D ad cA H locs ls hC hR hL (ft_okc (show ft_ok (.inl (ft_l2i x)) from ft_in_of _) (ft_okt hS)) hl
  simp only [List.map_cons, ft_val, ft_l2i, ft_bk] at t
  exact lv_l2i hC.1 hC.2.1 hd rfl t
def ft_i2b (x : Int) : Int := (Int32.ofInt x).toInt8.toInt32.toInt
theorem fv_i2b {x : Int} (hd : decode K.2.1 pc = .ok (.i2b, 1)) (hp : pc + 1 = pc') (k : ft_V K pc' L (.inl (ft_i2b x) :: st) h R) : ft_V K pc L (.inl x :: st) h R := by
  intro p l e s m args below meth c D ad cA H locs ls hC hR hL hS hl
  subst hp
  have t := k p l e s m args below meth c D ad cA H locs ls hC hR hL (ft_okc (show ft_ok (.inl (ft_i2b x)) from ft_in_of _) (ft_okt hS)) hl
  simp only [List.map_cons, ft_val, ft_i2b, ft_bk] at t
  exact lv_i2b hC.1 hC.2.1 hd rfl t
theorem ft_vc {ad : Nat → Nat} {v : ftV} (h : ft_isL (some v) = false) : (ft_val ad v).category = 1 := by
  rcases v with z | z | z
  · rfl
  · cases h
  · rfl
theorem fv_dup {v : ftV} (hd : decode K.2.1 pc = .ok (.dup, 1)) (hp : pc + 1 = pc') (hv : ft_isL (some v) = false) (k : ft_V K pc' L (v :: v :: st) h R) : ft_V K pc L (v :: st) h R := by
  intro p l e s m args below meth c D ad cA H locs ls hC hR hL hS hl
  subst hp
  exact lv_dup hC.1 hC.2.1 hd (ft_vc hv) (k p l e s m args below meth c D ad cA H locs ls hC hR hL (ft_okc (ft_okh hS) hS) hl)
theorem fv_pop {v : ftV} (hd : decode K.2.1 pc = .ok (.pop, 1)) (hp : pc + 1 = pc') (hv : ft_isL (some v) = false) (k : ft_V K pc' L st h R) : ft_V K pc L (v :: st) h R := by
  intro p l e s m args below meth c D ad cA H locs ls hC hR hL hS hl
  subst hp
  exact lv_pop hC.1 hC.2.1 hd (ft_vc hv) (k p l e s m args below meth c D ad cA H locs ls hC hR hL (ft_okt hS) hl)
theorem fv_dup2 {u v : ftV} (hd : decode K.2.1 pc = .ok (.dup2, 1)) (hp : pc + 1 = pc') (hu : ft_isL (some u) = false) (hv : ft_isL (some v) = false) (k : ft_V K pc' L (u :: v :: u :: v :: st) h R) : ft_V K pc L (u :: v :: st) h R := by
  intro p l e s m args below meth c D ad cA H locs ls hC hR hL hS hl
  subst hp
  exact lv_dup2_11 hC.1 hC.2.1 hd (ft_vc hu) (ft_vc hv) (k p l e s m args below meth c D ad cA H locs ls hC hR hL (ft_okc (ft_okh hS) (ft_okc (ft_okh (ft_okt hS)) hS)) hl)
theorem fv_goto {off : Int} (hd : decode K.2.1 pc = .ok (.goto off, 3)) (hp : (pc : Int) + off = (pc' : Int)) (k : ft_V K pc' L st h R) : ft_V K pc L st h R := by
  intro p l e s m args below meth c D ad cA H locs ls hC hR hL hS hl
  exact lv_goto hC.1 hC.2.1 hd hp (k p l e s m args below meth c D ad cA H locs ls hC hR hL hS hl)
theorem fv_mask {M : List Bool} (hm : ft_mask L M = L') (k : ft_V K pc L' st h R) : ft_V K pc L st h R := by
  intro p l e s m args below meth c D ad cA H locs ls hC hR hL hS hl
  subst hm
  refine k p l e s m args below meth c D ad cA H locs ls hC hR (fun v hv => ?_) hS ⟨hl.1, hl.2.1, fun q hq => ?_⟩
  · obtain ⟨i, hi⟩ := List.getElem?_of_mem hv
    exact hL v (List.mem_of_getElem? (ft_mask_get L M i v hi))
  · obtain ⟨i, w⟩ := q
    obtain ⟨v, hv, rfl⟩ := ft_lv_mem.mp hq
    exact ft_lget hl (ft_mask_get L M i v hv)
theorem fv_if_eq {x : Int} {off : Int} {tgt : Nat} (hd : decode K.2.1 pc = .ok (.ifCond .eq off, 3)) (hp : pc + 3 = pc') (ht : (pc : Int) + off = (tgt : Int)) (kt : x = 0 → ft_V K tgt L st h R) (kf : ¬ (x = 0) → ft_V K pc' L st h R) : ft_V K pc L (.inl x :: st) h R := by
  intro p l e s m args below meth c D ad cA H locs ls hC hR hL hS hl
  subst hp
  exact lv_if_eq hC.1 hC.2.1 hd ht (fun q => kt ((ft_eqI (ft_okh hS) ft_in0).mp q) p l e s m args below meth c D ad cA H locs ls hC hR hL (ft_okt hS) hl) (fun q => kf (fun z => q ((ft_eqI (ft_okh hS) ft_in0).mpr z)) p l e s m args below meth c D ad cA H locs ls hC hR hL (ft_okt hS) hl)
theorem fv_icmp_eq {x y : Int} {off : Int} {tgt : Nat} (hd : decode K.2.1 pc = .ok (.if_icmp .eq off, 3)) (hp : pc + 3 = pc') (ht : (pc : Int) + off = (tgt : Int)) (kt : x = y → ft_V K tgt L st h R) (kf : ¬ (x = y) → ft_V K pc' L st h R) : ft_V K pc L (.inl y :: .inl x :: st) h R := by
  intro p l e s m args below meth c D ad cA H locs ls hC hR hL hS hl
  subst hp
  exact lv_icmp_eq hC.1 hC.2.1 hd ht (fun q => kt ((ft_eqI (ft_okh (ft_okt hS)) (ft_okh hS)).mp q) p l e s m args below meth c D ad cA H locs ls hC hR hL (ft_okt (ft_okt hS)) hl) (fun q => kf (fun z => q ((ft_eqI (ft_okh (ft_okt hS)) (ft_okh hS)).mpr z)) p l e s m args below meth c D ad cA H locs ls hC hR hL (ft_okt (ft_okt hS)) hl)
theorem fv_lcmp_eq {x y : Int} {off : Int} {tgt : Nat} (hd0 : decode K.2.1 pc = .ok (.lcmp, 1)) (hd : decode K.2.1 (pc + 1) = .ok (.ifCond .eq off, 3)) (hp : pc + 4 = pc') (ht : ((pc + 1 : Nat) : Int) + off = (tgt : Int)) (kt : x = y → ft_V K tgt L st h R) (kf : ¬ (x = y) → ft_V K pc' L st h R) : ft_V K pc L (.inr (.inl y) :: .inr (.inl x) :: st) h R := by
  intro p l e s m args below meth c D ad cA H locs ls hC hR hL hS hl
  subst hp
  refine W.lcmp hC.1 hC.2.1 hd0 ?_
  exact lv_if_eq hC.1 hC.2.1 hd ht (fun q => kt ((ft_eqL (ft_okh (ft_okt hS)) (ft_okh hS)).mp ((lg_cmp_eq _ _).mp q)) p l e s m args below meth c D ad cA H locs ls hC hR hL (ft_okt (ft_okt hS)) hl) (fun q => kf (fun z => q ((lg_cmp_eq _ _).mpr ((ft_eqL (ft_okh (ft_okt hS)) (ft_okh hS)).mpr z))) p l e s m args below meth c D ad cA H locs ls hC hR hL (ft_okt (ft_okt hS)) hl)
theorem fv_if_ne {x : Int} {off : Int} {tgt : Nat} (hd : decode K.2.1 pc = .ok (.ifCond .ne off, 3)) (hp : pc + 3 = pc') (ht : (pc : Int) + off = (tgt : Int)) (kt : ¬ (x = 0) → ft_V K tgt L st h R) (kf : x = 0 → ft_V K pc' L st h R) : ft_V K pc L (.inl x :: st) h R := by
  intro p l e s m args below meth c D ad cA H locs ls hC hR hL hS hl
  subst hp
  exact lv_if_ne hC.1 hC.2.1 hd ht (fun q => kt (fun z => q ((ft_eqI (ft_okh hS) ft_in0).mpr z)) p l e s m args below meth c D ad cA H locs ls hC hR hL (ft_okt hS) hl) (fun q => kf ((ft_eqI (ft_okh hS) ft_in0).mp q) p l e s m args below meth c D ad cA H locs ls hC hR hL (ft_okt hS) hl)
theorem fv_icmp_ne {x y : Int} {off : Int} {tgt : Nat} (hd : decode K.2.1 pc = .ok (.if_icmp .ne off, 3)) (hp : pc + 3 = pc') (ht : (pc : Int) + off = (tgt : Int)) (kt : ¬ (x = y) → ft_V K tgt L st h R) (kf : x = y → ft_V K pc' L st h R) : ft_V K pc L (.inl y :: .inl x :: st) h R := by
  intro p l e s m args below meth c D ad cA H locs ls hC hR hL hS hl
  subst hp
  exact lv_icmp_ne hC.1 hC.2.1 hd ht (fun q => kt (fun z => q ((ft_eqI (ft_okh (ft_okt hS)) (ft_okh hS)).mpr z)) p l e s m args below meth c D ad cA H locs ls hC hR hL (ft_okt (ft_okt hS)) hl) (fun q => kf ((ft_eqI (ft_okh (ft_okt hS)) (ft_okh hS)).mp q) p l e s m args below meth c D ad cA H locs ls hC hR hL (ft_okt (ft_okt hS)) hl)
theorem fv_lcmp_ne {x y : Int} {off : Int} {tgt : Nat} (hd0 : decode K.2.1 pc = .ok (.lcmp, 1)) (hd : decode K.2.1 (pc + 1) = .ok (.ifCond .ne off, 3)) (hp : pc + 4 = pc') (ht : ((pc + 1 : Nat) : Int) + off = (tgt : Int)) (kt : ¬ (x = y) → ft_V K tgt L st h R) (kf : x = y → ft_V K pc' L st h R) : ft_V K pc L (.inr (.inl y) :: .inr (.inl x) :: st) h R := by
  intro p l e s m args below meth c D ad cA H locs ls hC hR hL hS hl
  subst hp
  refine W.lcmp hC.1 hC.2.1 hd0 ?_
  exact lv_if_ne hC.1 hC.2.1 hd ht (fun q => kt (fun z => q ((lg_cmp_eq _ _).mpr ((ft_eqL (ft_okh (ft_okt hS)) (ft_okh hS)).mpr z))) p l e s m args below meth c D ad cA H locs ls hC hR hL (ft_okt (ft_okt hS)) hl) (fun q => kf ((ft_eqL (ft_okh (ft_okt hS)) (ft_okh hS)).mp ((lg_cmp_eq _ _).mp q)) p l e s m args below meth c D ad cA H locs ls hC hR hL (ft_okt (ft_okt hS)) hl)
theorem fv_if_lt {x : Int} {off : Int} {tgt : Nat} (hd : decode K.2.1 pc = .ok (.ifCond .lt off, 3)) (hp : pc + 3 = pc') (ht : (pc : Int) + off = (tgt : Int)) (kt : x < 0 → ft_V K tgt L st h R) (kf : ¬ (x < 0) → ft_V K pc' L st h R) : ft_V K pc L (.inl x :: st) h R := by
  intro p l e s m args below meth c D ad cA H locs ls hC hR hL hS hl
  subst hp
  exact lv_if_lt hC.1 hC.2.1 hd ht (fun q => kt ((ft_ltI (ft_okh hS) ft_in0).mp q) p l e s m args below meth c D ad cA H locs ls hC hR hL (ft_okt hS) hl) (fun q => kf (fun z => q ((ft_ltI (ft_okh hS) ft_in0).mpr z)) p l e s m args below meth c D ad cA H locs ls hC hR hL (ft_okt hS) hl)
theorem fv_icmp_lt {x y : Int} {off : Int} {tgt : Nat} (hd : decode K.2.1 pc = .ok (.if_icmp .lt off, 3)) (hp : pc + 3 = pc') (ht : (pc : Int) + off = (tgt : Int)) (kt : x < y → ft_V K tgt L st h R) (kf : ¬ (x < y) → ft_V K pc' L st h R) : ft_V K pc L (.inl y :: .inl x :: st) h R := by
  intro p l e s m args below meth c D ad cA H locs ls hC hR hL hS hl
  subst hp
  exact lv_icmp_lt hC.1 hC.2.1 hd ht (fun q => kt ((ft_ltI (ft_okh (ft_okt hS)) (ft_okh hS)).mp q) p l e s m args below meth c D ad cA H locs ls hC hR hL (ft_okt (ft_okt hS)) hl) (fun q => kf (fun z => q ((ft_ltI (ft_okh (ft_okt hS)) (ft_okh hS)).mpr z)) p l e s m args below meth c D ad cA H locs ls hC hR hL (ft_okt (ft_okt hS)) hl)
theorem fv_lcmp_lt {x y : Int} {off : Int} {tgt : Nat} (hd0 : decode K.2.1 pc = .ok (.lcmp, 1)) (hd : decode K.2.1 (pc + 1) = .ok (.ifCond .lt off, 3)) (hp : pc + 4 = pc') (ht : ((pc + 1 : Nat) : Int) + off = (tgt : Int)) (kt : x < y → ft_V K tgt L st h R) (kf : ¬ (x < y) → ft_V K pc' L st h R) : ft_V K pc L (.inr (.inl y) :: .inr (.inl x) :: st) h R := by
  intro p l e s m args below meth c D ad cA H locs ls hC hR hL hS hl
  subst hp
  refine W.lcmp hC.1 hC.2.1 hd0 ?_
  exact lv_if_lt hC.1 hC.2.1 hd ht (fun q => kt ((ft_ltL (ft_okh (ft_okt hS)) (ft_okh hS)).mp ((lg_cmp_lt _ _).mp q)) p l e s m args below meth c D ad cA H locs ls hC hR hL (ft_okt (ft_okt hS)) hl) (fun q => kf (fun z => q ((lg_cmp_lt _ _).mpr ((ft_ltL (ft_okh (ft_okt hS)) (ft_okh hS)).mpr z))) p l e s m args below meth c D ad cA H locs ls hC hR hL (ft_okt (ft_okt hS)) hl)
theorem fv_if_ge {x : Int} {off : Int} {tgt : Nat} (hd : decode K.2.1 pc = .ok (.ifCond .ge off, 3)) (hp : pc + 3 = pc') (ht : (pc : Int) + off = (tgt : Int)) (kt : 0 ≤ x → ft_V K tgt L st h R) (kf : ¬ (0 ≤ x) → ft_V K pc' L st h R) : ft_V K pc L (.inl x :: st) h R := by
  intro p l e s m args below meth c D ad cA H locs ls hC hR hL hS hl
  subst hp
  exact lv_if_ge hC.1 hC.2.1 hd ht (fun q => kt ((ft_leI ft_in0 (ft_okh hS)).mp q) p l e s m args below meth c D ad cA H locs ls hC hR hL (ft_okt hS) hl) (fun q => kf (fun z => q ((ft_leI ft_in0 (ft_okh hS)).mpr z)) p l e s m args below meth c D ad cA H locs ls hC hR hL (ft_okt hS) hl)
theorem fv_icmp_ge {x y : Int} {off : Int} {tgt : Nat} (hd : decode K.2.1 pc = .ok (.if_icmp .ge off, 3)) (hp : pc + 3 = pc') (ht : (pc : Int) + off = (tgt : Int)) (kt : y ≤ x → ft_V K tgt L st h R) (kf : ¬ (y ≤ x) → ft_V K pc' L st h R) : ft_V K pc L (.inl y :: .inl x :: st) h R := by
  intro p l e s m args below meth c D ad cA H locs ls hC hR hL hS hl
  subst hp
  exact lv_icmp_ge hC.1 hC.2.1 hd ht (fun q => kt ((ft_leI (ft_okh hS) (ft_okh (ft_okt hS))).mp q) p l e s m args below meth c D ad cA H locs ls hC hR hL (ft_okt (ft_okt hS)) hl) (fun q => kf (fun z => q ((ft_leI (ft_okh hS) (ft_okh (ft_okt hS))).mpr z)) p l e s m args below meth c D ad cA H locs ls hC hR hL (ft_okt (ft_okt hS)) hl)
theorem fv_lcmp_ge {x y : Int} {off : Int} {tgt : Nat} (hd0 : decode K.2.1 pc = .ok (.lcmp, 1)) (hd : decode K.2.1 (pc + 1) = .ok (.ifCond .ge off, 3)) (hp : pc + 4 = pc') (ht : ((pc + 1 : Nat) : Int) + off = (tgt : Int)) (kt : y ≤ x → ft_V K tgt L st h R) (kf : ¬ (y ≤ x) → ft_V K pc' L st h R) : ft_V K pc L (.inr (.inl y) :: .inr (.inl x) :: st) h R := by
  intro p l e s m args below meth c D ad cA H locs ls hC hR hL hS hl
  subst hp
  refine W.lcmp hC.1 hC.2.1 hd0 ?_
  exact lv_if_ge hC.1 hC.2.1 hd ht (fun q => kt ((ft_leL (ft_okh hS) (ft_okh (ft_okt hS))).mp ((lg_cmp_ge _ _).mp q)) p l e s m args below meth c D ad cA H locs ls hC hR hL (ft_okt (ft_okt hS)) hl) (fun q => kf (fun z => q ((lg_cmp_ge _ _).mpr ((ft_leL (ft_okh hS) (ft_okh (ft_okt hS))).mpr z))) p l e s m args below meth c D ad cA H locs ls hC hR hL (ft_okt (ft_okt hS)) hl)
theorem fv_if_gt {x : Int} {off : Int} {tgt : Nat} (hd : decode K.2.1 pc = .ok (.ifCond .gt off, 3)) (hp : pc + 3 = pc') (ht : (pc : Int) + off = (tgt : Int)) (kt : 0 < x → ft_V K tgt L st h R) (kf : ¬ (0 < x) → ft_V K pc' L st h R) : ft_V K pc L (.inl x :: st) h R := by
  intro p l e s m args below meth c D ad cA H locs ls hC hR hL hS hl
  subst hp
  exact lv_if_gt hC.1 hC.2.1 hd ht (fun q => kt ((ft_ltI ft_in0 (ft_okh hS)).mp q) p l e s m args below meth c D ad cA H locs ls hC hR hL (ft_okt hS) hl) (fun q => kf (fun z => q ((ft_ltI ft_in0 (ft_okh hS)).mpr z)) p l e s m args below meth c D ad cA H locs ls hC hR hL (ft_okt hS) hl)
theorem fv_icmp_gt {x y : Int} {off : Int} {tgt : Nat} (hd : decode K.2.1 pc = .ok (.if_icmp .gt off, 3)) (hp : pc + 3 = pc') (ht : (pc : Int) + off = (tgt : Int)) (kt : y < x → ft_V K tgt L st h R) (kf : ¬ (y < x) → ft_V K pc' L st h R) : ft_V K pc L (.inl y :: .inl x :: st) h R := by
  intro p l e s m args below meth c D ad cA H locs ls hC hR hL hS hl
  subst hp
  exact lv_icmp_gt hC.1 hC.2.1 hd ht (fun q => kt ((ft_ltI (ft_okh hS) (ft_okh (ft_okt hS))).mp q) p l e s m args below meth c D ad cA H locs ls hC hR hL (ft_okt (ft_okt hS)) hl) (fun q => kf (fun z => q ((ft_ltI (ft_okh hS) (ft_okh (ft_okt hS))).mpr z)) p l e s m args below meth c D ad cA H locs ls hC hR hL (ft_okt (ft_okt hS)) hl)
theorem fv_lcmp_gt {x y : Int} {off : Int} {tgt : Nat} (hd0 : decode K.2.1 pc = .ok (.lcmp, 1)) (hd : decode K.2.1 (pc + 1) = .ok (.ifCond .gt off, 3)) (hp : pc + 4 = pc') (ht : ((pc + 1 : Nat) : Int) + off = (tgt : Int)) (kt : y < x → ft_V K tgt L st h R) (kf : ¬ (y < x) → ft_V K pc' L st h R) : ft_V K pc L (.inr (.inl y) :: .inr (.inl x) :: st) h R := by
  intro p l e s m args below meth c D ad cA H locs ls hC hR hL hS hl
  subst hp
  refine W.lcmp hC.1 hC.2.1 hd0 ?_
  exact lv_if_gt hC.1 hC.2.1 hd ht (fun q => kt ((ft_ltL (ft_okh hS) (ft_okh (ft_okt hS))).mp ((lg_cmp_gt _ _).mp q)) p l e s m args below meth c D ad cA H locs ls hC hR hL (ft_okt (ft_okt hS)) hl) (fun q => kf (fun z => q ((lg_cmp_gt _ _).mpr ((ft_ltL (ft_okh hS) (ft_okh (ft_okt hS))).mpr z))) p l e s m args below meth c D ad cA H locs ls hC hR hL (ft_okt (ft_okt hS)) hl)
theorem fv_if_le {x : Int} {off : Int} {tgt : Nat} (hd : decode K.2.1 pc = .ok (.ifCond .le off, 3)) (hp : pc + 3 = pc') (ht : (pc : Int) + off = (tgt : Int)) (kt : x ≤ 0 → ft_V K tgt L st h R) (kf : ¬ (x ≤ 0) → ft_V K pc' L st h R) : ft_V K pc L (.inl x :: st) h R := by
  intro p l e s m args below meth c D ad cA H locs ls hC hR hL hS hl
  subst hp
  exact lv_if_le hC.1 hC.2.1 hd ht (fun q => kt ((ft_leI (ft_okh hS) ft_in0).mp q) p l e s m args below meth c D ad cA H locs ls hC hR hL (ft_okt hS) hl) (fun q => kf (fun z => q ((ft_leI (ft_okh hS) ft_in0).mpr z)) p l e s m args below meth c D ad cA H locs ls hC hR hL (ft_okt hS) hl)
theorem fv_icmp_le {x y : Int} {off : Int} {tgt : Nat} (hd : decode K.2.1 pc = .ok (.if_icmp .le off, 3)) (hp : pc + 3 = pc') (ht : (pc : Int) + off = (tgt : Int)) (kt : x ≤ y → ft_V K tgt L st h R) (kf : ¬ (x ≤ y) → ft_V K pc' L st h R) : ft_V K pc L (.inl y :: .inl x :: st) h R := by
  intro p l e s m args below meth c D ad cA H locs ls hC hR hL hS hl
  subst hp
  exact lv_icmp_le hC.1 hC.2.1 hd ht (fun q => kt ((ft_leI (ft_okh (ft_okt hS)) (ft_okh hS)).mp q) p l e s m args below meth c D ad cA H locs ls hC hR hL (ft_okt (ft_okt hS)) hl) (fun q => kf (fun z => q ((ft_leI (ft_okh (ft_okt hS)) (ft_okh hS)).mpr z)) p l e s m args below meth c D ad cA H locs ls hC hR hL (ft_okt (ft_okt hS)) hl)
theorem fv_lcmp_le {x y : Int} {off : Int} {tgt : Nat} (hd0 : decode K.2.1 pc = .ok (.lcmp, 1)) (hd : decode K.2.1 (pc + 1) = .ok (.ifCond .le off, 3)) (hp : pc + 4 = pc') (ht : ((pc + 1 : Nat) : Int) + off = (tgt : Int)) (kt : x ≤ y → ft_V K tgt L st h R) (kf : ¬ (x ≤ y) → ft_V K pc' L st h R) : ft_V K pc L (.inr (.inl y) :: .inr (.inl x) :: st) h R := by
  intro p l e s m args below meth c D ad cA H locs ls hC hR hL hS hl
  subst hp
  refine W.lcmp hC.1 hC.2.1 hd0 ?_
  exact lv_if_le hC.1 hC.2.1 hd ht (fun q => kt ((ft_leL (ft_okh (ft_okt hS)) (ft_okh hS)).mp ((lg_cmp_le _ _).mp q)) p l e s m args below meth c D ad cA H locs ls hC hR hL (ft_okt (ft_okt hS)) hl) (fun q => kf (fun z => q ((lg_cmp_le _ _).mpr ((ft_leL (ft_okh (ft_okt hS)) (ft_okh hS)).mpr z))) p l e s m args below meth c D ad cA H locs ls hC hR hL (ft_okt (ft_okt hS)) hl)
theorem fv_tswIn {dflt lo hi : Int} {offs : Array Int} {len : Nat} {x off : Int} (hd : decode K.2.1 pc = .ok (.tableswitch dflt lo hi offs, len)) (h1 : ¬ x < lo) (h2 : ¬ hi < x) (ho : offs[(x - lo).toNat]? = some off) (hp : (pc : Int) + off = (pc' : Int)) (k : ft_V K pc' L st h R) : ft_V K pc L (.inl x :: st) h R := by
  intro p l e s m args below meth c D ad cA H locs ls hC hR hL hS hl
  have ex : (Int32.ofInt x).toInt = x := ft_toI (ft_okh hS)
  exact lv_tableIn hC.1 hC.2.1 hd (by rw [ex]; exact h1) (by rw [ex]; exact h2) (by rw [ex]; exact ho) hp (k p l e s m args below meth c D ad cA H locs ls hC hR hL (ft_okt hS) hl)
theorem fv_tswOut {dflt lo hi : Int} {offs : Array Int} {len : Nat} {x : Int} (hd : decode K.2.1 pc = .ok (.tableswitch dflt lo hi offs, len)) (hx : x < lo ∨ hi < x) (hp : (pc : Int) + dflt = (pc' : Int)) (k : ft_V K pc' L st h R) : ft_V K pc L (.inl x :: st) h R := by
  intro p l e s m args below meth c D ad cA H locs ls hC hR hL hS hl
  have ex : (Int32.ofInt x).toInt = x := ft_toI (ft_okh hS)
  exact lv_tableOut hC.1 hC.2.1 hd (by rw [ex]; exact hx) hp (k p l e s m args below meth c D ad cA H locs ls hC hR hL (ft_okt hS) hl)
theorem ft_ret {D : va_G} {ad : Nat → Nat} {cA : Nat → ClassId} {H H0 : Heap} {locs : List Loc} {s t : State} (hK : va_K D ft_cls (ft_tys cA) s) (hR : ft_Rp D ad cA h H H0 locs) (ht : t.heap = H) (hW : s.WarmedH t.vm) : ft_P0 D ad cA h t := ⟨by rw [ht]; exact hR.1, va_K.moved hW.alike hK, hR.2.1, hR.2.2.2⟩
theorem fv_return (hd : decode K.2.1 pc = .ok (.return_, 1)) (hr : K.2.2.2.1 = none) (k : R none h) : ft_V K pc L [] h R := by
  intro p l e s m args below meth c D ad cA H locs ls hC hR hL hS hl
  have hlocks := hC.2.2.2.2.2.2.1
  rw [hr]
  exact W.vret hC.1 hC.2.1 (hC.2.2.1.trans hr) (fun t ht hW => ⟨⟨h, rfl, k, ft_ret hC.2.2.2.2.2.2.2.1 hR ht hW⟩, hR.2.2.1.F ht⟩) hR.2.2.1.2.2 hd
theorem fv_lreturn {x : Int} (hd : decode K.2.1 pc = .ok (.lreturn, 1)) (hr : K.2.2.2.1 = some .long) (k : R (some (.inr (.inl x))) h) : ft_V K pc L [.inr (.inl x)] h R := by
  intro p l e s m args below meth c D ad cA H locs ls hC hR hL hS hl
  have hlocks := hC.2.2.2.2.2.2.1
  rw [hr]
  have hx : (Int64.ofInt x).toInt = x := ft_toL (ft_okh hS)
  exact W.lret hC.1 hC.2.1 (hC.2.2.1.trans hr) (fun t ht hW => ⟨⟨Int64.ofInt x, h, rfl, by show R (some (.inr (.inl (Int64.ofInt x).toInt))) h; rw [hx]; exact k, ft_ret hC.2.2.2.2.2.2.2.1 hR ht hW⟩, hR.2.2.1.F ht⟩) hR.2.2.1.2.2 hd
theorem fv_ireturn {x : Int} (hd : decode K.2.1 pc = .ok (.ireturn, 1)) (hr : K.2.2.2.1 = some .int) (k : R (some (.inl x)) h) : ft_V K pc L [.inl x] h R := by
  intro p l e s m args below meth c D ad cA H locs ls hC hR hL hS hl
  have hlocks := hC.2.2.2.2.2.2.1
  rw [hr]
  have hx : (Int32.ofInt x).toInt = x := ft_toI (ft_okh hS)
  exact W.iret hC.1 hC.2.1 (hC.2.2.1.trans hr) (fun t ht hW => ⟨⟨Int32.ofInt x, h, rfl, by show R (some (.inl (Int32.ofInt x).toInt)) h; rw [hx]; exact k, ft_ret hC.2.2.2.2.2.2.2.1 hR ht hW⟩, hR.2.2.1.F ht⟩) hR.2.2.1.2.2 hd
theorem fv_zreturn {x : Int} (hd : decode K.2.1 pc = .ok (.ireturn, 1)) (hr : K.2.2.2.1 = some .boolean) (hx01 : x = 0 ∨ x = 1) (k : R (some (.inl x)) h) : ft_V K pc L [.inl x] h R := by
  intro p l e s m args below meth c D ad cA H locs ls hC hR hL hS hl
  have hlocks := hC.2.2.2.2.2.2.1
  rw [hr]
  have hx : (Int32.ofInt x).toInt = x := ft_toI (ft_okh hS)
  exact W.zret (ty := .boolean) hC.1 hC.2.1 (hC.2.2.1.trans hr) (by rcases hx01 with rfl | rfl <;> decide +kernel) (fun t ht hW => ⟨⟨Int32.ofInt x, h, rfl, by show R (some (.inl (Int32.ofInt x).toInt)) h; rw [hx]; exact k, ft_ret hC.2.2.2.2.2.2.2.1 hR ht hW⟩, hR.2.2.1.F ht⟩) hR.2.2.1.2.2 hd
end FVR
end
section
/-! THE RULES of the heap and of calls -/
section FVH
variable {K : ftM} {pc pc' : Nat} {L L' : List (Option ftV)} {st : List ftV} {h h' : ftH} {R : Option ftV → ftH → Prop}
variable {D : va_G} {ad : Nat → Nat} {cA : Nat → ClassId} {H H0 : Heap} {locs : List Loc}
theorem ft_cell_eq {a : Nat} {sh : Nat ⊕ Nat × Nat} (he : h' a = h a) : ft_cell ad cA h' a sh = ft_cell ad cA h a sh := by
  rcases sh with ci | q
  · simp only [ft_cell, ft_flds, he]
  · simp only [ft_cell, ft_arr, he]
theorem ft_ws_upd {k : Nat} {sh : Nat ⊕ Nat × Nat} (hk : ft_sh k = some sh) (hne : ∀ a, a ≠ k → h' a = h a) : (ft_ws ad cA h).set k (ad k, ft_cell ad cA h' k sh) = ft_ws ad cA h' := by
  apply List.ext_getElem?
  intro i
  by_cases e : i = k
  · subst e
    rw [List.getElem?_set_self', ft_ws_get hk, ft_ws_get hk]
    rfl
  · rw [List.getElem?_set_ne (fun q => e q.symm)]
    unfold ft_ws
    rw [List.getElem?_mapIdx, List.getElem?_mapIdx]
    cases ft_shapes[i]? with
    | none => rfl
    | some sh => rw [Option.map_some, Option.map_some, ft_cell_eq (hne i e)]
theorem ft_hs_ne {k j : Nat} {z : Int} : ∀ a, a ≠ k → ft_hs h k j z a = h a := fun a ha => by
  funext b
  unfold ft_hs
  rw [if_neg (fun q => ha q.1)]
theorem ft_hs_same {k j : Nat} {z : Int} : ft_hs h k j z k j = z := if_pos ⟨rfl, rfl⟩
theorem ft_hs_j {k j b : Nat} {z : Int} (hb : b ≠ j) : ft_hs h k j z k b = h k b := if_neg (fun q => hb q.2)
theorem ft_flds_get {k ci j t : Nat} (ht : (ft_fk ci)[j]? = some t) : (ft_flds ad h k ci)[j]? = some (if t = 0 then .int (Int32.ofInt (h k j)) else if t = 1 then .long (Int64.ofInt (h k j)) else .ref (ad (ft_lay k j))) := by
  unfold ft_flds
  rw [List.getElem?_mapIdx, ht]
  rfl
theorem ft_flds_set {k ci j t : Nat} {z : Int} {v : Value} (ht : (ft_fk ci)[j]? = some t) (hv : v = if t = 0 then .int (Int32.ofInt z) else if t = 1 then .long (Int64.ofInt z) else .ref (ad (ft_lay k j))) : (ft_flds ad h k ci).set j v = ft_flds ad (ft_hs h k j z) k ci := by
  apply List.ext_getElem?
  intro i
  by_cases e : i = j
  · subst e
    rw [List.getElem?_set_self', ft_flds_get ht, ft_flds_get ht, ft_hs_same, hv]
    rfl
  · rw [List.getElem?_set_ne (fun q => e q.symm)]
    unfold ft_flds
    rw [List.getElem?_mapIdx, List.getElem?_mapIdx]
    cases (ft_fk ci)[i]? with
    | none => rfl
    | some t => rw [Option.map_some, Option.map_some, ft_hs_j e]
/-- a class of the list by its number: what the rows of fields need -/
def ft_ck (ci : Nat) (q : vw_C) (ty0 : Nat → FieldType) : Prop := ft_cls[ci]? = some q ∧ (∀ w ∈ u_ws q.1 q.2.1 q.2.2, ft_g w) ∧ (∀ k, k < q.2.2 → parseFieldDescriptor (q.2.1 k).2.2.1 = some (ty0 k)) ∧ (∀ a, a < q.2.2 → ∀ b, b < q.2.2 → a ≠ b → (q.2.1 a).2.1 ≠ (q.2.1 b).2.1) ∧ (ft_fk ci).length = q.2.2
/-- a link of a field: class own, entry idx: field k of class number ci -/
def ft_fl (own : String) (idx ci k : Nat) (q : vw_C) (ty0 : Nat → FieldType) : Prop := ft_ck ci q ty0 ∧ k < q.2.2 ∧ (q.2.1 k).1 = q.1 ∧ ft_g (.fieldLink own idx q.1 (q.2.1 k).2.1 (q.2.1 k).2.2.1)
theorem ft_hts {p : Program} {s : State} {m : MethodId} {args : Array Value} {meth : Method} {c : Code} (hC : ft_Cx K p s m args meth c D ad cA) : ∀ w ∈ lw_tbl.filter goodWord, w.before args s = true := fun w hw => hC.2.2.2.2.2.1 w (List.mem_filter.mp hw).1 (List.mem_filter.mp hw).2
theorem ft_gf {w : Cond} (hg : ft_g w) : w ∈ lw_tbl.filter goodWord := List.mem_filter.mpr hg
theorem ft_get {idx ci k a t : Nat} {q : vw_C} {ty0 : Nat → FieldType} {v : ftV} (hd : decode K.2.1 pc = .ok (.getfield idx, 3)) (hp : pc + 3 = pc') (hf : ft_fl K.1.cls idx ci k q ty0) (ha : ft_sh a = some (.inl ci)) (ht : (ft_fk ci)[k]? = some t)
    (hv : ∀ ad : Nat → Nat, ft_val ad v = if t = 0 then .int (Int32.ofInt (h a k)) else if t = 1 then .long (Int64.ofInt (h a k)) else .ref (ad (ft_lay a k))) (hok : ft_wf h → ft_ok v) (kk : ft_V K pc' L (v :: st) h R) : ft_V K pc L (.inr (.inr a) :: st) h R := by
  intro p l e s m args below meth c D ad cA H locs ls hC hR hL hS hl
  subst hp
  obtain ⟨⟨hcl, hws, -, -, -⟩, hk, hdc, hg⟩ := hf
  exact va_get hC.1 hC.2.1 (ft_hts hC) (fun w hw => ft_gf (hws w hw)) hC.2.2.2.2.1 hC.2.2.2.2.2.2.2.1 hR.1 a (ft_ws_get ha) hcl k hk (ft_hts hC _ (ft_gf hg)) (fun x hx => by rw [hdc] at hx; exact hx) (by rw [ft_flds_get ht, hv ad]) hd (kk p l e s m args below meth c D ad cA H locs ls hC hR hL (ft_okc (hok hR.2.2.2) (ft_okt hS)) hl)
theorem ft_lgO {a ci k t : Nat} (ha : ft_sh a = some (.inl ci)) (ht : (ft_fk ci)[k]? = some t) : ft_lg a k = (t == 1) := by
  unfold ft_lg
  rw [ha]
  simp [List.getD_eq_getElem?_getD, ht]
theorem fv_getI {idx ci k a : Nat} {q : vw_C} {ty0 : Nat → FieldType} (hd : decode K.2.1 pc = .ok (.getfield idx, 3)) (hp : pc + 3 = pc') (hf : ft_fl K.1.cls idx ci k q ty0) (ha : ft_sh a = some (.inl ci)) (ht : (ft_fk ci)[k]? = some 0) (kk : ft_V K pc' L (.inl (h a k) :: st) h R) : ft_V K pc L (.inr (.inr a) :: st) h R :=
  ft_get hd hp hf ha ht (fun _ => rfl) (fun hw => by have := hw a k; rw [ft_lgO ha ht] at this; exact this) kk
theorem fv_getL {idx ci k a : Nat} {q : vw_C} {ty0 : Nat → FieldType} (hd : decode K.2.1 pc = .ok (.getfield idx, 3)) (hp : pc + 3 = pc') (hf : ft_fl K.1.cls idx ci k q ty0) (ha : ft_sh a = some (.inl ci)) (ht : (ft_fk ci)[k]? = some 1) (kk : ft_V K pc' L (.inr (.inl (h a k)) :: st) h R) : ft_V K pc L (.inr (.inr a) :: st) h R :=
  ft_get hd hp hf ha ht (fun _ => rfl) (fun hw => by have := hw a k; rw [ft_lgO ha ht] at this; exact this) kk
theorem fv_getR {idx ci k a b : Nat} {q : vw_C} {ty0 : Nat → FieldType} (hd : decode K.2.1 pc = .ok (.getfield idx, 3)) (hp : pc + 3 = pc') (hf : ft_fl K.1.cls idx ci k q ty0) (ha : ft_sh a = some (.inl ci)) (ht : (ft_fk ci)[k]? = some 2) (hb : ft_lay a k = b) (kk : ft_V K pc' L (.inr (.inr b) :: st) h R) : ft_V K pc L (.inr (.inr a) :: st) h R := by
  subst hb
  exact ft_get (v := .inr (.inr (ft_lay a k))) hd hp hf ha ht (fun _ => rfl) (fun _ => trivial) kk
theorem ft_put {idx ci k a t : Nat} {q : vw_C} {ty0 : Nat → FieldType} {v : ftV} {z : Int} (hd : decode K.2.1 pc = .ok (.putfield idx, 3)) (hp : pc + 3 = pc') (hf : ft_fl K.1.cls idx ci k q ty0) (hfin : (q.2.1 k).2.2.2 = false) (ha : ft_sh a = some (.inl ci)) (ht : (ft_fk ci)[k]? = some t)
    (hv : ∀ ad : Nat → Nat, ft_val ad v = if t = 0 then .int (Int32.ofInt z) else if t = 1 then .long (Int64.ofInt z) else .ref (ad (ft_lay a k))) (hfit : ∀ ad : Nat → Nat, narrow (ty0 k) (ft_val ad v) = ft_val ad v ∧ fits (ty0 k) (ft_val ad v) = true) (hok : ft_ok v → if ft_lg a k = true then ft_inL z else ft_in z) (kk : ft_V K pc' L st (ft_hs h a k z) R) : ft_V K pc L (v :: .inr (.inr a) :: st) h R := by
  intro p l e s m args below meth c D ad cA H locs ls hC hR hL hS hl
  subst hp
  obtain ⟨⟨hcl, hws, hty, hnm, hlen⟩, hk, hdc, hg⟩ := hf
  refine va_put hC.1 hC.2.1 (ft_hts hC) (fun w hw => ft_gf (hws w hw)) ty0 hty hnm hC.2.2.2.2.1 hC.2.2.2.2.2.2.2.1 hR.1 hR.2.1 hR.2.2.1 a (ft_ws_get ha) hcl k hk (ft_hts hC _ (ft_gf hg)) (fun x hx => by rw [hdc] at hx; exact hx) hfin (hty k hk) (hfit ad).1 (hfit ad).2 (by unfold ft_flds; rw [List.length_mapIdx, hlen]; exact hk) hd (fun H1 locs1 hP1 hD1 hS1 => ?_)
  have hes : (ft_ws ad cA h).set a (ad a, .inr (ci, (ft_flds ad h a ci).set k (ft_val ad v))) = ft_ws ad cA (ft_hs h a k z) := by
    rw [ft_flds_set ht (hv ad)]
    exact ft_ws_upd (ad := ad) (cA := cA) (h := h) (h' := ft_hs h a k z) (k := a) (sh := .inl ci) ha ft_hs_ne
  rw [hes] at hP1 hD1
  exact kk p l e s m args below meth c D ad cA H1 locs1 ls hC ⟨hP1, hD1, hS1, ft_wf_hs hR.2.2.2 (hok (ft_okh hS))⟩ hL (ft_okt (ft_okt hS)) hl
theorem fv_putI {idx ci k a : Nat} {q : vw_C} {ty0 : Nat → FieldType} {z : Int} (hd : decode K.2.1 pc = .ok (.putfield idx, 3)) (hp : pc + 3 = pc') (hf : ft_fl K.1.cls idx ci k q ty0) (hfin : (q.2.1 k).2.2.2 = false) (hty : ty0 k = .int) (ha : ft_sh a = some (.inl ci)) (ht : (ft_fk ci)[k]? = some 0) (kk : ft_V K pc' L st (ft_hs h a k z) R) : ft_V K pc L (.inl z :: .inr (.inr a) :: st) h R :=
  ft_put hd hp hf hfin ha ht (fun _ => rfl) (fun _ => by rw [hty]; exact ⟨rfl, rfl⟩) (fun hz => by rw [ft_lgO ha ht]; exact hz) kk
theorem ft_nz {z : Int} (hz : z = 0 ∨ z = 1) : narrow .boolean (.int (Int32.ofInt z)) = .int (Int32.ofInt z) ∧ fits .boolean (.int (Int32.ofInt z)) = true := by
  rcases hz with rfl | rfl <;> exact ⟨by decide +kernel, by decide +kernel⟩
theorem fv_putZ {idx ci k a : Nat} {q : vw_C} {ty0 : Nat → FieldType} {z : Int} (hd : decode K.2.1 pc = .ok (.putfield idx, 3)) (hp : pc + 3 = pc') (hf : ft_fl K.1.cls idx ci k q ty0) (hfin : (q.2.1 k).2.2.2 = false) (hty : ty0 k = .boolean) (ha : ft_sh a = some (.inl ci)) (ht : (ft_fk ci)[k]? = some 0) (hz : z = 0 ∨ z = 1) (kk : ft_V K pc' L st (ft_hs h a k z) R) : ft_V K pc L (.inl z :: .inr (.inr a) :: st) h R :=
  ft_put hd hp hf hfin ha ht (fun _ => rfl) (fun _ => by rw [hty]; exact ft_nz hz) (fun hz => by rw [ft_lgO ha ht]; exact hz) kk
theorem fv_putL {idx ci k a : Nat} {q : vw_C} {ty0 : Nat → FieldType} {z : Int} (hd : decode K.2.1 pc = .ok (.putfield idx, 3)) (hp : pc + 3 = pc') (hf : ft_fl K.1.cls idx ci k q ty0) (hfin : (q.2.1 k).2.2.2 = false) (hty : ty0 k = .long) (ha : ft_sh a = some (.inl ci)) (ht : (ft_fk ci)[k]? = some 1) (kk : ft_V K pc' L st (ft_hs h a k z) R) : ft_V K pc L (.inr (.inl z) :: .inr (.inr a) :: st) h R :=
  ft_put hd hp hf hfin ha ht (fun _ => rfl) (fun _ => by rw [hty]; exact ⟨rfl, rfl⟩) (fun hz => by rw [ft_lgO ha ht]; exact hz) kk
/-! arrays -/
theorem ft_lnA {a t n : Nat} (ha : ft_sh a = some (.inr (t, n))) : ft_ln a = n := by unfold ft_ln; rw [ha]
theorem ft_lgA {a t n j : Nat} (ha : ft_sh a = some (.inr (t, n))) : ft_lg a j = (t == 1) := by unfold ft_lg; rw [ha]
theorem ft_vpin {i : Int} {n : Nat} (hi : ft_in i) (h1 : 0 ≤ i) (h2 : i < (n : Int)) : vp_in (Int32.ofInt i) n := by
  rw [vp_in_iff, ft_toI hi]
  exact ⟨h1, h2⟩
theorem ft_cl {i : Int} (hi : ft_in i) : (Int32.ofInt i).toNatClampNeg = i.toNat := by
  show (Int32.ofInt i).toInt.toNat = i.toNat
  rw [ft_toI hi]
theorem fv_iald {a n : Nat} {i : Int} (hd : decode K.2.1 pc = .ok (.iaload, 1)) (hp : pc + 1 = pc') (ha : ft_sh a = some (.inr (0, n))) (hi : 0 ≤ i ∧ i < (n : Int)) (kk : ft_V K pc' L (.inl (h a i.toNat) :: st) h R) : ft_V K pc L (.inl i :: .inr (.inr a) :: st) h R := by
  intro p l e s m args below meth c D ad cA H locs ls hC hR hL hS hl
  subst hp
  have hin := ft_okh hS
  have t := kk p l e s m args below meth c D ad cA H locs ls hC hR hL (ft_okc (show ft_ok (.inl (h a i.toNat)) by have := hR.2.2.2 a i.toNat; rw [ft_lgA ha] at this; exact this) (ft_okt (ft_okt hS))) hl
  refine va_iald (f := fun j => Int32.ofInt (h a j)) hC.1 hC.2.1 hC.2.2.2.2.2.2.2.1 hR.1 a 0 (ft_ws_get ha) rfl (ft_vpin hin hi.1 hi.2) hd ?_
  rw [ft_cl hin]
  exact t
theorem fv_bald {a n : Nat} {i : Int} (hd : decode K.2.1 pc = .ok (.baload, 1)) (hp : pc + 1 = pc') (ha : ft_sh a = some (.inr (2, n))) (hi : 0 ≤ i ∧ i < (n : Int)) (kk : ft_V K pc' L (.inl (h a i.toNat) :: st) h R) : ft_V K pc L (.inl i :: .inr (.inr a) :: st) h R := by
  intro p l e s m args below meth c D ad cA H locs ls hC hR hL hS hl
  subst hp
  have hin := ft_okh hS
  have t := kk p l e s m args below meth c D ad cA H locs ls hC hR hL (ft_okc (show ft_ok (.inl (h a i.toNat)) by have := hR.2.2.2 a i.toNat; rw [ft_lgA ha] at this; exact this) (ft_okt (ft_okt hS))) hl
  refine va_bald (f := fun j => Int32.ofInt (h a j)) hC.1 hC.2.1 hC.2.2.2.2.2.2.2.1 hR.1 a 2 (ft_ws_get ha) rfl (ft_vpin hin hi.1 hi.2) hd ?_
  rw [ft_cl hin]
  exact t
theorem fv_zald {a n : Nat} {i : Int} (hd : decode K.2.1 pc = .ok (.baload, 1)) (hp : pc + 1 = pc') (ha : ft_sh a = some (.inr (3, n))) (hi : 0 ≤ i ∧ i < (n : Int)) (kk : ft_V K pc' L (.inl (h a i.toNat) :: st) h R) : ft_V K pc L (.inl i :: .inr (.inr a) :: st) h R := by
  intro p l e s m args below meth c D ad cA H locs ls hC hR hL hS hl
  subst hp
  have hin := ft_okh hS
  have t := kk p l e s m args below meth c D ad cA H locs ls hC hR hL (ft_okc (show ft_ok (.inl (h a i.toNat)) by have := hR.2.2.2 a i.toNat; rw [ft_lgA ha] at this; exact this) (ft_okt (ft_okt hS))) hl
  refine va_zald (f := fun j => Int32.ofInt (h a j)) hC.1 hC.2.1 hC.2.2.2.2.2.2.2.1 hR.1 a 3 (ft_ws_get ha) rfl (ft_vpin hin hi.1 hi.2) hd ?_
  rw [ft_cl hin]
  exact t
theorem fv_lald {a n : Nat} {i : Int} (hd : decode K.2.1 pc = .ok (.laload, 1)) (hp : pc + 1 = pc') (ha : ft_sh a = some (.inr (1, n))) (hi : 0 ≤ i ∧ i < (n : Int)) (kk : ft_V K pc' L (.inr (.inl (h a i.toNat)) :: st) h R) : ft_V K pc L (.inl i :: .inr (.inr a) :: st) h R := by
  intro p l e s m args below meth c D ad cA H locs ls hC hR hL hS hl
  subst hp
  have hin := ft_okh hS
  have t := kk p l e s m args below meth c D ad cA H locs ls hC hR hL (ft_okc (show ft_ok (.inr (.inl (h a i.toNat))) by have := hR.2.2.2 a i.toNat; rw [ft_lgA ha] at this; exact this) (ft_okt (ft_okt hS))) hl
  refine va_lald (f := fun j => Int64.ofInt (h a j)) hC.1 hC.2.1 hC.2.2.2.2.2.2.2.1 hR.1 a 1 (ft_ws_get ha) rfl (ft_vpin hin hi.1 hi.2) hd ?_
  rw [ft_cl hin]
  exact t
theorem fv_aald {a n t b : Nat} {i : Int} (hd : decode K.2.1 pc = .ok (.aaload, 1)) (hp : pc + 1 = pc') (ha : ft_sh a = some (.inr (t, n))) (ht : t = 4 ∨ t = 5 ∨ t = 6) (hi : 0 ≤ i ∧ i < (n : Int)) (hb : ft_lay a i.toNat = b) (kk : ft_V K pc' L (.inr (.inr b) :: st) h R) : ft_V K pc L (.inl i :: .inr (.inr a) :: st) h R := by
  intro p l e s m args below meth c D ad cA H locs ls hC hR hL hS hl
  subst hp
  subst hb
  have hin := ft_okh hS
  have k := kk p l e s m args below meth c D ad cA H locs ls hC hR hL (ft_okc (show ft_ok (.inr (.inr (ft_lay a i.toNat))) from trivial) (ft_okt (ft_okt hS))) hl
  have hlt : (Int32.ofInt i).toNatClampNeg < n := by rw [ft_cl hin]; omega
  have hP := hR.1 a _ (ft_ws_get ha)
  have he : ft_arr ad h a t = .inr (.inr (.inr (.inr fun j => some (ad (ft_lay a j))))) := by rcases ht with rfl | rfl | rfl <;> rfl
  have hP' : H[ad a]? = some (arrV (cA t) n fun j => va_rf (some (ad (ft_lay a j)))) := by
    have h2 : H[ad a]? = some (vp_cell (cA t) (n, ft_arr ad h a t)) := hP
    rw [he] at h2
    exact h2
  obtain ⟨ty, hty, hr⟩ : ∃ ty : FieldType, (ft_tys cA)[t]? = some (cA t, ty) ∧ ty.isReference = true := by rcases ht with rfl | rfl | rfl <;> exact ⟨_, rfl, rfl⟩
  refine W.aald (v := .ref (ad (ft_lay a i.toNat))) (ty := ty) hC.1 hC.2.1 hP' ((hC.2.2.2.2.2.2.2.1.2 t _ hty).1 n _) hr (fun q => by cases q) (by rw [arrV_size]; exact ft_vpin hin hi.1 hi.2) (by rw [arrV_read _ _ hlt, ft_cl hin]; rfl) rfl rfl hd k
theorem ft_updI {a j : Nat} {z : Int} {x : Int32} (hx : x = Int32.ofInt z) : upd (fun j => Int32.ofInt (h a j)) j x = fun b => Int32.ofInt (ft_hs h a j z a b) := by
  funext b
  unfold upd ft_hs
  by_cases e : b = j
  · simp [e, hx]
  · simp [e]
theorem ft_updL {a j : Nat} {z : Int} {x : Int64} (hx : x = Int64.ofInt z) : vp_updL (fun j => Int64.ofInt (h a j)) j x = fun b => Int64.ofInt (ft_hs h a j z a b) := by
  funext b
  unfold vp_updL ft_hs
  by_cases e : b = j
  · simp [e, hx]
  · simp [e]
theorem fv_iast {a n : Nat} {i z : Int} (hd : decode K.2.1 pc = .ok (.iastore, 1)) (hp : pc + 1 = pc') (ha : ft_sh a = some (.inr (0, n))) (hi : 0 ≤ i ∧ i < (n : Int)) (kk : ft_V K pc' L st (ft_hs h a i.toNat z) R) : ft_V K pc L (.inl z :: .inl i :: .inr (.inr a) :: st) h R := by
  intro p l e s m args below meth c D ad cA H locs ls hC hR hL hS hl
  subst hp
  have hin := ft_okh (ft_okt hS)
  refine va_iast (f := fun j => Int32.ofInt (h a j)) hC.1 hC.2.1 hC.2.2.2.2.2.2.2.1 hR.1 hR.2.1 hR.2.2.1 a 0 (ft_ws_get ha) rfl (ft_vpin hin hi.1 hi.2) hd (fun H1 locs1 hP1 hD1 hS1 => ?_)
  rw [ft_cl hin, ft_updI rfl] at hP1 hD1
  have hes : (ft_ws ad cA h).set a (ad a, .inl (cA 0, n, .inl fun b => Int32.ofInt (ft_hs h a i.toNat z a b))) = ft_ws ad cA (ft_hs h a i.toNat z) := ft_ws_upd (ad := ad) (cA := cA) (h := h) (h' := ft_hs h a i.toNat z) (k := a) (sh := .inr (0, n)) ha ft_hs_ne
  rw [hes] at hP1 hD1
  exact kk p l e s m args below meth c D ad cA H1 locs1 ls hC ⟨hP1, hD1, hS1, ft_wf_hs hR.2.2.2 (by rw [ft_lgA ha]; exact ft_okh hS)⟩ hL (ft_okt (ft_okt (ft_okt hS))) hl
theorem fv_last {a n : Nat} {i z : Int} (hd : decode K.2.1 pc = .ok (.lastore, 1)) (hp : pc + 1 = pc') (ha : ft_sh a = some (.inr (1, n))) (hi : 0 ≤ i ∧ i < (n : Int)) (kk : ft_V K pc' L st (ft_hs h a i.toNat z) R) : ft_V K pc L (.inr (.inl z) :: .inl i :: .inr (.inr a) :: st) h R := by
  intro p l e s m args below meth c D ad cA H locs ls hC hR hL hS hl
  subst hp
  have hin := ft_okh (ft_okt hS)
  refine va_last (f := fun j => Int64.ofInt (h a j)) hC.1 hC.2.1 hC.2.2.2.2.2.2.2.1 hR.1 hR.2.1 hR.2.2.1 a 1 (ft_ws_get ha) rfl (ft_vpin hin hi.1 hi.2) hd (fun H1 locs1 hP1 hD1 hS1 => ?_)
  rw [ft_cl hin, ft_updL rfl] at hP1 hD1
  have hes : (ft_ws ad cA h).set a (ad a, .inl (cA 1, n, .inr (.inl fun b => Int64.ofInt (ft_hs h a i.toNat z a b)))) = ft_ws ad cA (ft_hs h a i.toNat z) := ft_ws_upd (ad := ad) (cA := cA) (h := h) (h' := ft_hs h a i.toNat z) (k := a) (sh := .inr (1, n)) ha ft_hs_ne
  rw [hes] at hP1 hD1
  exact kk p l e s m args below meth c D ad cA H1 locs1 ls hC ⟨hP1, hD1, hS1, ft_wf_hs hR.2.2.2 (by rw [ft_lgA ha]; exact ft_okh hS)⟩ hL (ft_okt (ft_okt (ft_okt hS))) hl
theorem fv_bast {a n : Nat} {i z : Int} (hd : decode K.2.1 pc = .ok (.bastore, 1)) (hp : pc + 1 = pc') (ha : ft_sh a = some (.inr (2, n))) (hi : 0 ≤ i ∧ i < (n : Int)) (kk : ft_V K pc' L st (ft_hs h a i.toNat (ft_i2b z)) R) : ft_V K pc L (.inl z :: .inl i :: .inr (.inr a) :: st) h R := by
  intro p l e s m args below meth c D ad cA H locs ls hC hR hL hS hl
  subst hp
  have hin := ft_okh (ft_okt hS)
  refine va_bast (f := fun j => Int32.ofInt (h a j)) hC.1 hC.2.1 hC.2.2.2.2.2.2.2.1 hR.1 hR.2.1 hR.2.2.1 a 2 (ft_ws_get ha) rfl (ft_vpin hin hi.1 hi.2) hd (fun H1 locs1 hP1 hD1 hS1 => ?_)
  rw [ft_cl hin, vp_nar_byte, ft_updI (ft_bk _).symm] at hP1 hD1
  have hes : (ft_ws ad cA h).set a (ad a, .inl (cA 2, n, .inl fun b => Int32.ofInt (ft_hs h a i.toNat (ft_i2b z) a b))) = ft_ws ad cA (ft_hs h a i.toNat (ft_i2b z)) := ft_ws_upd (ad := ad) (cA := cA) (h := h) (h' := ft_hs h a i.toNat (ft_i2b z)) (k := a) (sh := .inr (2, n)) ha ft_hs_ne
  unfold ft_i2b at hes
  rw [hes] at hP1 hD1
  exact kk p l e s m args below meth c D ad cA H1 locs1 ls hC ⟨hP1, hD1, hS1, ft_wf_hs hR.2.2.2 (by rw [ft_lgA ha]; exact ft_in_of _)⟩ hL (ft_okt (ft_okt (ft_okt hS))) hl
theorem fv_zast {a n : Nat} {i z : Int} (hd : decode K.2.1 pc = .ok (.bastore, 1)) (hp : pc + 1 = pc') (ha : ft_sh a = some (.inr (3, n))) (hi : 0 ≤ i ∧ i < (n : Int)) (hz : z = 0 ∨ z = 1) (kk : ft_V K pc' L st (ft_hs h a i.toNat z) R) : ft_V K pc L (.inl z :: .inl i :: .inr (.inr a) :: st) h R := by
  intro p l e s m args below meth c D ad cA H locs ls hC hR hL hS hl
  subst hp
  have hin := ft_okh (ft_okt hS)
  have hn : vp_nar .boolean (Int32.ofInt z) = Int32.ofInt z := by rcases hz with rfl | rfl <;> decide +kernel
  refine va_zast (f := fun j => Int32.ofInt (h a j)) hC.1 hC.2.1 hC.2.2.2.2.2.2.2.1 hR.1 hR.2.1 hR.2.2.1 a 3 (ft_ws_get ha) rfl (ft_vpin hin hi.1 hi.2) hd (fun H1 locs1 hP1 hD1 hS1 => ?_)
  rw [ft_cl hin, hn, ft_updI rfl] at hP1 hD1
  have hes : (ft_ws ad cA h).set a (ad a, .inl (cA 3, n, .inl fun b => Int32.ofInt (ft_hs h a i.toNat z a b))) = ft_ws ad cA (ft_hs h a i.toNat z) := ft_ws_upd (ad := ad) (cA := cA) (h := h) (h' := ft_hs h a i.toNat z) (k := a) (sh := .inr (3, n)) ha ft_hs_ne
  rw [hes] at hP1 hD1
  exact kk p l e s m args below meth c D ad cA H1 locs1 ls hC ⟨hP1, hD1, hS1, ft_wf_hs hR.2.2.2 (by rw [ft_lgA ha]; exact ft_okh hS)⟩ hL (ft_okt (ft_okt (ft_okt hS))) hl
theorem fv_alen {a n t : Nat} {z : Int} (hd : decode K.2.1 pc = .ok (.arraylength, 1)) (hp : pc + 1 = pc') (ha : ft_sh a = some (.inr (t, n))) (ht : t < 7) (hz : (n : Int) = z) (hb : n < 2147483648) (kk : ft_V K pc' L (.inl z :: st) h R) : ft_V K pc L (.inr (.inr a) :: st) h R := by
  intro p l e s m args below meth c D ad cA H locs ls hC hR hL hS hl
  subst hp
  subst hz
  have k := kk p l e s m args below meth c D ad cA H locs ls hC hR hL (ft_okc (show ft_in (n : Int) from ⟨by omega, by omega⟩) (ft_okt hS)) hl
  obtain ⟨ty, hty⟩ : ∃ ty : FieldType, (ft_tys cA)[t]? = some (cA t, ty) := by
    rcases (show t = 0 ∨ t = 1 ∨ t = 2 ∨ t = 3 ∨ t = 4 ∨ t = 5 ∨ t = 6 by omega) with rfl | rfl | rfl | rfl | rfl | rfl | rfl <;> exact ⟨_, rfl⟩
  exact va_alen hC.1 hC.2.1 hC.2.2.2.2.2.2.2.1 hR.1 a t (ft_ws_get ha) hty rfl hd k
end FVH
end
section
/-! THE RULES of entry and of calls -/
def ft_ent : List ftV → List (Option ftV)
  | [] => []
  | v :: vs => if ft_isL (some v) = true then some v :: none :: ft_ent vs else some v :: ft_ent vs
theorem ft_cat1 {ad : Nat → Nat} {v : ftV} : (ft_val ad v).category = 2 ↔ ft_isL (some v) = true := by
  rcases v with z | z | z
  · exact ⟨fun h => (by cases h), fun h => (by cases h)⟩
  · exact ⟨fun _ => rfl, fun _ => rfl⟩
  · exact ⟨fun h => (by cases h), fun h => (by cases h)⟩
theorem ft_ent_args (ad : Nat → Nat) : ∀ (vs : List ftV) (i j : Nat) (v : ftV), (ft_ent vs)[j]? = some (some v) → (i + j, ft_val ad v) ∈ lv_args i (vs.map (ft_val ad))
  | [], i, j, v, h => by simp [ft_ent] at h
  | u :: vs, i, j, v, h => by
    unfold ft_ent at h
    simp only [List.map_cons, lv_args]
    by_cases c : ft_isL (some u) = true
    · rw [if_pos c] at h
      rw [if_pos (ft_cat1.mpr c)]
      match j, h with
      | 0, h =>
        simp only [List.getElem?_cons_zero, Option.some.injEq] at h
        subst h
        exact List.mem_cons_self
      | 1, h => simp at h
      | j + 2, h =>
        simp only [List.getElem?_cons_succ] at h
        have := ft_ent_args ad vs (i + 2) j v h
        rw [show i + (j + 2) = i + 2 + j by omega]
        exact List.mem_cons_of_mem _ this
    · rw [if_neg c] at h
      rw [if_neg (fun q => c (ft_cat1.mp q))]
      match j, h with
      | 0, h =>
        simp only [List.getElem?_cons_zero, Option.some.injEq] at h
        subst h
        exact List.mem_cons_self
      | j + 1, h =>
        simp only [List.getElem?_cons_succ] at h
        have := ft_ent_args ad vs (i + 1) j v h
        rw [show i + (j + 1) = i + 1 + j by omega]
        exact List.mem_cons_of_mem _ this
theorem ft_ent_len (ad : Nat → Nat) : ∀ vs : List ftV, (lg_sl (vs.map (ft_val ad))).length = (ft_ent vs).length
  | [] => rfl
  | v :: vs => by
    have ih := ft_ent_len ad vs
    unfold lg_sl at ih ⊢
    unfold ft_ent
    rw [List.map_cons, List.flatMap_cons, List.length_append, ih]
    by_cases c : ft_isL (some v) = true
    · rw [if_pos c, if_pos (ft_cat1.mpr c)]
      simp
      omega
    · rw [if_neg c, if_neg (fun q => c (ft_cat1.mp q))]
      simp
      omega
theorem ft_ent_mem {v : ftV} : ∀ vs : List ftV, some v ∈ ft_ent vs → v ∈ vs
  | [], h => by simp [ft_ent] at h
  | u :: vs, h => by
    unfold ft_ent at h
    split at h
    · simp only [List.mem_cons, Option.some.injEq, reduceCtorEq, false_or] at h
      rcases h with rfl | h
      · exact List.mem_cons_self
      · exact List.mem_cons_of_mem _ (ft_ent_mem vs h)
    · simp only [List.mem_cons, Option.some.injEq] at h
      rcases h with rfl | h
      · exact List.mem_cons_self
      · exact List.mem_cons_of_mem _ (ft_ent_mem vs h)
section FVC
variable {K K' : ftM} {pc pc' : Nat} {L L' : List (Option ftV)} {st : List ftV} {h h' : ftH} {R R' : Option ftV → ftH → Prop}
theorem ft_enter {av : List ftV} {n : Nat} (hy : plainName K.1.cls = true) (hn : (ft_ent av).length ≤ K.2.2.1) (hL0 : ft_ent av ++ List.replicate n none = L) (k : ft_V K 0 L [] h R) : ft_C K av h R := by
  intro l D ad cA
  refine Met.ofW (cc := K.2.1) (maxL := K.2.2.1) (ret := K.2.2.2.1) hy rfl ?_
  intro p e s m args below meth c s₁ B hml hv
  obtain ⟨rfl, hP, hE, hok⟩ := hv
  rw [lg_entry_eq]
  have hl := lv_entry (av.map (ft_val ad)) (n := K.2.2.1) (by rw [ft_ent_len]; exact hn)
  have hget : ∀ (i : Nat) (v : ftV), L[i]? = some (some v) → (ft_ent av)[i]? = some (some v) := by
    intro i v hi
    rw [← hL0] at hi
    by_cases c : i < (ft_ent av).length
    · rwa [List.getElem?_append_left c] at hi
    · rw [List.getElem?_append_right (by omega)] at hi
      have := List.eq_of_mem_replicate (List.mem_of_getElem? hi)
      cases this
  refine k p l e s m _ below meth c D ad cA s.heap [] _ ⟨B.exec, B.bytes, B.returns, hml, findClass_of_methodNamed B.named, fun w hw hg => atoms_spec (ws := ft_wk K) B.pre w (List.mem_cons_of_mem _ (List.mem_filter.mpr ⟨hw, hg⟩)), B.notSynchronized, hP.2.1, hE⟩ ⟨hP.1, hP.2.2.1, va_S.rf, hP.2.2.2⟩ (fun v hv => ?_) (fun v hv => by cases hv) ⟨hl.1, hl.2.1, fun q hq => ?_⟩
  · obtain ⟨i, hi⟩ := List.getElem?_of_mem hv
    exact hok v (ft_ent_mem av (List.mem_of_getElem? (hget i v hi)))
  · obtain ⟨i, w⟩ := q
    obtain ⟨v, hv, rfl⟩ := ft_lv_mem.mp hq
    have := ft_ent_args ad av 0 i v (hget i v hv)
    rw [Nat.zero_add] at this
    exact hl.2.2 _ this
def ft_rm (K K' : ftM) : Prop := K'.2.2.2.2.cells = 0 ∧ K'.2.2.2.2.slots = 0 ∧ K'.2.2.2.2.frames + 1 ≤ K.2.2.2.2.frames ∧ 8 + (K'.2.2.1 + 11) + K'.2.2.2.2.locals ≤ K.2.2.2.2.locals
def ft_lw (K' : ftM) (n : Nat) : Prop := ft_g (.initialized K'.1.cls) ∧ ft_g (.code K'.1 K'.2.1 K'.2.2.1 K'.2.2.2.1) ∧ (K'.1.cls ≠ "java/lang/invoke/MethodHandle" ∧ K'.1.cls ≠ "java/lang/invoke/VarHandle" ∧ (parseMethodDescriptor K'.1.desc).map (fun d => d.parameters.length) = some n)
theorem ft_good (hc : ft_g (.code K'.1 K'.2.1 K'.2.2.1 K'.2.2.2.1)) : GoodIn (lw_tbl.filter goodWord) (ft_wk K') := by
  intro w hw
  rcases List.mem_cons.mp hw with rfl | hw
  · exact ⟨ft_gf hc, good_of_word hc.2⟩
  · exact ⟨hw, good_of_word (List.mem_filter.mp hw).2⟩
theorem ft_goodc {w : Cond} {ws : List Cond} (hw : ft_g w) (hs : GoodIn (lw_tbl.filter goodWord) ws) : GoodIn (lw_tbl.filter goodWord) (w :: ws) := by
  intro u hu
  rcases List.mem_cons.mp hu with rfl | hu
  · exact ⟨ft_gf hw, good_of_word hw.2⟩
  · exact hs u hu
def ft_cs (st : List ftV) : Nat := (st.map fun v => if ft_isL (some v) = true then 2 else 1).sum
theorem ft_cs_ok {ad : Nat → Nat} (hs : ft_cs st ≤ 8) : ((st.map (ft_val ad)).map fun v => v.category).sum ≤ 8 := by
  have e : (st.map (ft_val ad)).map (fun v => v.category) = st.map fun v => if ft_isL (some v) = true then 2 else 1 := by
    rw [List.map_map]
    apply List.map_congr_left
    intro v _
    rcases v with z | z | z <;> rfl
  rw [e]
  exact hs
theorem ft_blind {D : va_G} {ad : Nat → Nat} {cA : Nat → ClassId} {av : List Value} {P : Prop} : FrameBlind (va_Pc av (fun U => ft_P0 D ad cA h U ∧ ft_E ad U U.heap ∧ P)) := fun a U g mk q => by
  obtain ⟨q0, ⟨qP, qK, qD, qw⟩, qE, qk⟩ := q
  exact ⟨q0, ⟨qP, va_K.moved (u := U) (U := U.calling g mk a) (Vm.Alike.refl U.vm) qK, qD, qw⟩, ft_E.same (u := U) (U := U.calling g mk a) rfl qE, qk⟩
/-- a call has been run -/
def ft_Rn (K K' : ftM) (pc : Nat) (st0 st av : List ftV) (h : ftH) (R' : Option ftV → ftH → Prop) : Prop :=
  ∀ (p : Program) (l : Launch) (e : Env) (s : State) (m : MethodId) (args : Array Value) (below : List Frame) (meth : Method) (c : Code) (D : va_G) (ad : Nat → Nat) (cA : Nat → ClassId) (H : Heap) (locs : List Loc) (ls : Array Slot),
    ft_Cx K p s m args meth c D ad cA → ft_Rp D ad cA h H s.heap locs → (∀ v ∈ st0, ft_ok v) → ls.size = K.2.2.1 →
    va_Run p l e K.2.2.2.2 s m args below meth c H locs 0 0 0 0 (F0 m pc ls (st0.map (ft_val ad))) (st.map (ft_val ad)) (ft_Q K'.2.2.2.1 R' D ad cA (av.map (ft_val ad)).toArray) (ft_A ad)
theorem ft_preU {p : Program} {s : State} {m : MethodId} {args : Array Value} {meth : Method} {c : Code} {D : va_G} {ad : Nat → Nat} {cA : Nat → ClassId} {H : Heap} {locs : List Loc} (hC : ft_Cx K p s m args meth c D ad cA) (hR : ft_Rp D ad cA h H s.heap locs) {P : Prop} (hP : P) : ∀ U : State, U.heap = H → s.WarmedH U.vm → ft_P0 D ad cA h U ∧ ft_E ad U U.heap ∧ P := fun U hU hW =>
  ⟨⟨by rw [hU]; exact hR.1, va_K.moved hW.alike hC.2.2.2.2.2.2.2.1, hR.2.1, hR.2.2.2⟩, by rw [hU]; exact ft_E.warm hW (ft_E.kept hR.2.2.1.2.1 hC.2.2.2.2.2.2.2.2), hP⟩
theorem ft_rnV {idx ci b n : Nat} {q : vw_C} {As st0 : List ftV} (hd : decode K.2.1 pc = .ok (.invokevirtual idx, 3)) (hl : ft_g (.methodLink K.1.cls idx K'.1)) (hi : ft_g (.instanceMethod K'.1)) (hs : ft_g (.selects K'.1.cls K'.1 K'.1)) (hw : ft_lw K' n) (hr : ft_rm K K') (hb : ft_sh b = some (.inl ci)) (hci : ft_cls[ci]? = some q) (hq : q.1 = K'.1.cls)
    (hst : st0 = As.reverse ++ .inr (.inr b) :: st) (hn : As.length = n) (hcs : ft_cs st ≤ 8) (hc : ft_C K' (.inr (.inr b) :: As) h R') : ft_Rn K K' pc st0 st (.inr (.inr b) :: As) h R' := by
  intro p l e s m args below meth c D ad cA H locs ls hC hR hS hls
  subst hst
  have hok : ∀ v ∈ (.inr (.inr b) :: As : List ftV), ft_ok v := fun v hv => by
    rcases List.mem_cons.mp hv with rfl | hv
    · trivial
    · exact hS v (List.mem_append_left _ (List.mem_reverse.mpr hv))
  exact va_runV (As := As.map (ft_val ad)) (rest := st.map (ft_val ad)) (b := ad b) (C := K'.1.cls) (Ts := lw_tbl.filter goodWord) (own := K.1.cls) (n := n) ⟨hC.1, hC.2.1, hC.2.2.2.1, hC.2.2.2.2.1, ft_hts hC⟩ (hc l D ad cA) (cwV n (ft_hts hC) (ft_goodc hl (ft_goodc hi (ft_goodc hs (ft_goodc hw.1 (ft_good hw.2.1))))) rfl hr.1 hr.2.1 ⟨rfl, hw.2.2⟩ hr.2.2) ⟨ft_blind, by rw [← hq]; exact va_recv hC.2.2.2.2.2.2.2.1 hR.1 hci (ft_ws_get hb), fun U hU hW => ⟨rfl, ft_preU hC hR hok U hU hW⟩⟩ rfl (by rw [List.length_map]; exact hn) hls (by simp [ft_val]) (lv_room (ft_cs_ok hcs)) hd ⟨Nat.zero_le _, Nat.zero_le _⟩
theorem ft_rnS {idx n : Nat} {As st0 : List ftV} (hd : decode K.2.1 pc = .ok (.invokestatic idx, 3)) (hl : ft_g (.methodLink K.1.cls idx K'.1)) (hs : ft_g (.static K'.1)) (hown : K'.1.cls = K.1.cls) (hw : ft_lw K' n) (hr : ft_rm K K')
    (hst : st0 = As.reverse ++ st) (hn : As.length = n) (hcs : ft_cs st ≤ 8) (hc : ft_C K' As h R') : ft_Rn K K' pc st0 st As h R' := by
  intro p l e s m args below meth c D ad cA H locs ls hC hR hS hls
  subst hst
  have hok : ∀ v ∈ As, ft_ok v := fun v hv => hS v (List.mem_append_left _ (List.mem_reverse.mpr hv))
  exact va_runS (As := As.map (ft_val ad)) (rest := st.map (ft_val ad)) (Ts := lw_tbl.filter goodWord) (own := K.1.cls) (n := n) ⟨hC.1, hC.2.1, hC.2.2.2.1, hC.2.2.2.2.1, ft_hts hC⟩ (hc l D ad cA) (cwS n (ft_hts hC) (ft_goodc hl (ft_goodc hs (ft_goodc (by rw [← hown]; exact hw.1) (ft_good hw.2.1)))) rfl hr.1 hr.2.1 ⟨hown, hw.2.2⟩ hr.2.2) ⟨ft_blind, fun U hU hW => ⟨rfl, ft_preU hC hR hok U hU hW⟩⟩ rfl (by rw [List.length_map]; exact hn) hls (by simp) (lv_room (ft_cs_ok hcs)) hd ⟨Nat.zero_le _, Nat.zero_le _⟩
theorem ft_rnSN {idx n : Nat} {host : String} {As st0 : List ftV} (hd : decode K.2.1 pc = .ok (.invokestatic idx, 3)) (hl : (K.1.cls, idx, K'.1, host) ∈ ft_nests) (hs : ft_g (.static K'.1)) (hw : ft_lw K' n) (hr : ft_rm K K')
    (hst : st0 = As.reverse ++ st) (hn : As.length = n) (hcs : ft_cs st ≤ 8) (hc : ft_C K' As h R') : ft_Rn K K' pc st0 st As h R' := by
  intro p l e s m args below meth c D ad cA H locs ls hC hR hS hls
  subst hst
  have hok : ∀ v ∈ As, ft_ok v := fun v hv => hS v (List.mem_append_left _ (List.mem_reverse.mpr hv))
  exact va_runSN (As := As.map (ft_val ad)) (rest := st.map (ft_val ad)) (Ts := lw_tbl.filter goodWord) (own := K.1.cls) (host := host) (n := n) ⟨hC.1, hC.2.1, hC.2.2.2.1, hC.2.2.2.2.1, ft_hts hC⟩ (hc l D ad cA) ⟨va_cnB n (ft_hts hC) (ft_good hw.2.1) rfl hr.1 hr.2.1 (hC.2.2.2.2.2.2.2.2.1 _ hl) (ft_hts hC _ (ft_gf hw.1)) hw.2.2 hr.2.2, ft_hts hC _ (ft_gf hs), trivial⟩ ⟨ft_blind, fun U hU hW => ⟨rfl, ft_preU hC hR hok U hU hW⟩⟩ rfl (by rw [List.length_map]; exact hn) hls (by simp) (lv_room (ft_cs_ok hcs)) hd ⟨Nat.zero_le _, Nat.zero_le _⟩
theorem fv_callv {st0 av : List ftV} (hret : K'.2.2.2.1 = none) (hp : pc + 3 = pc') (hst : ∀ v ∈ st, v ∈ st0) (run : ft_Rn K K' pc st0 st av h R') (k : ∀ h', R' none h' → ft_V K pc' L st h' R) : ft_V K pc L st0 h R := by
  intro p l e s m args below meth c D ad cA H locs ls hC hR hL hS hl
  subst hp
  have r := run p l e s m args below meth c D ad cA H locs ls hC hR hS hl.1
  rw [hret] at r
  refine va_callv (post := fun h' : ftH => R' none h') (B := fun h' t => ft_P0 D ad cA h' t) (A1 := ft_A ad) (a := (av.map (ft_val ad)).toArray) r hR.2.2.1 (fun q _ hq => hq) (fun q hq => hq) (fun u t H1 locs1 ht hvm hw hB hz hk hS1 => ?_)
  exact k u hw p l e s m args below meth c D ad cA H1 locs1 ls hC ⟨by rw [← ht]; exact hB.1, hB.2.2.1, hS1, hB.2.2.2⟩ hL (fun v hv => hS v (hst v hv)) hl
theorem fv_calli {st0 av : List ftV} (hret : K'.2.2.2.1 = some .int ∨ K'.2.2.2.1 = some .boolean) (hp : pc + 3 = pc') (hst : ∀ v ∈ st, v ∈ st0) (run : ft_Rn K K' pc st0 st av h R') (k : ∀ z h', ft_in z → R' (some (.inl z)) h' → ft_V K pc' L (.inl z :: st) h' R) : ft_V K pc L st0 h R := by
  intro p l e s m args below meth c D ad cA H locs ls hC hR hL hS hl
  subst hp
  have r0 := run p l e s m args below meth c D ad cA H locs ls hC hR hS hl.1
  have r : va_Run p l e K.2.2.2.2 s m args below meth c H locs 0 0 0 0 (F0 m pc ls (st0.map (ft_val ad))) (st.map (ft_val ad)) (va_Qi (fun r (h' : ftH) => R' (some (.inl r.toInt)) h') (fun h' t => ft_P0 D ad cA h' t) (ft_A ad) (av.map (ft_val ad)).toArray) (ft_A ad) := by
    rcases hret with hret | hret <;> (rw [hret] at r0; exact r0)
  refine va_calli (post := fun r (h' : ftH) => R' (some (.inl r.toInt)) h') (B := fun h' t => ft_P0 D ad cA h' t) (A1 := ft_A ad) (a := (av.map (ft_val ad)).toArray) r hR.2.2.1 (fun q _ hq => hq) (fun q hq => hq) (fun z u t H1 locs1 ht hvm hw hB hz hk hS1 => ?_)
  have t := k z.toInt u (ft_in_of z) hw p l e s m args below meth c D ad cA H1 locs1 ls hC ⟨by rw [← ht]; exact hB.1, hB.2.2.1, hS1, hB.2.2.2⟩ hL (ft_okc (show ft_ok (.inl z.toInt) from ft_in_of z) (fun v hv => hS v (hst v hv))) hl
  simp only [List.map_cons, ft_val, ft_bk] at t
  exact t
theorem fv_calll {st0 av : List ftV} (hret : K'.2.2.2.1 = some .long) (hp : pc + 3 = pc') (hst : ∀ v ∈ st, v ∈ st0) (run : ft_Rn K K' pc st0 st av h R') (k : ∀ z h', ft_inL z → R' (some (.inr (.inl z))) h' → ft_V K pc' L (.inr (.inl z) :: st) h' R) : ft_V K pc L st0 h R := by
  intro p l e s m args below meth c D ad cA H locs ls hC hR hL hS hl
  subst hp
  have r := run p l e s m args below meth c D ad cA H locs ls hC hR hS hl.1
  rw [hret] at r
  refine va_calll (post := fun r (h' : ftH) => R' (some (.inr (.inl r.toInt))) h') (B := fun h' t => ft_P0 D ad cA h' t) (A1 := ft_A ad) (a := (av.map (ft_val ad)).toArray) r hR.2.2.1 (fun q _ hq => hq) (fun q hq => hq) (fun z u t H1 locs1 ht hvm hw hB hz hk hS1 => ?_)
  have t := k z.toInt u (ft_inL_of z) hw p l e s m args below meth c D ad cA H1 locs1 ls hC ⟨by rw [← ht]; exact hB.1, hB.2.2.1, hS1, hB.2.2.2⟩ hL (ft_okc (show ft_ok (.inr (.inl z.toInt)) from ft_inL_of z) (fun v hv => hS v (hst v hv))) hl
  simp only [List.map_cons, ft_val, ft_bkL] at t
  exact t
/-! Math.min, Math.max, System.arraycopy -/
theorem ft_mathw : ft_g (.initialized "java/lang/Math") ∧ ft_g (.static Lib.Math.min.name) ∧ ft_g (.code Lib.Math.min.name Lib.Math.min.code 2 (some .int)) ∧ ft_g (.static Lib.Math.max.name) ∧ ft_g (.code Lib.Math.max.name Lib.Math.max.code 2 (some .int)) := by
  refine ⟨⟨by decide +kernel, by decide +kernel⟩, ⟨by decide +kernel, by decide +kernel⟩, ⟨by decide +kernel, by decide +kernel⟩, ⟨by decide +kernel, by decide +kernel⟩, ⟨by decide +kernel, by decide +kernel⟩⟩
theorem fv_min {idx : Nat} {x y : Int} (hd : decode K.2.1 pc = .ok (.invokestatic idx, 3)) (hp : pc + 3 = pc') (hl : ft_g (.methodLink K.1.cls idx Lib.Math.min.name)) (hf : 1 ≤ K.2.2.2.2.frames) (hlo : 8 + 13 ≤ K.2.2.2.2.locals) (hcs : ft_cs st ≤ 8) (k : ft_V K pc' L (.inl (min x y) :: st) h R) : ft_V K pc L (.inl y :: .inl x :: st) h R := by
  intro p l e s m args below meth c D ad cA H locs ls hC hR hL hS hls
  subst hp
  have hy : ft_in y := ft_okh hS
  have hx : ft_in x := ft_okh (ft_okt hS)
  have hm : ft_in (min x y) := by unfold ft_in at *; omega
  have t := k p l e s m args below meth c D ad cA H locs ls hC hR hL (ft_okc (show ft_ok (.inl (min x y)) from hm) (ft_okt (ft_okt hS))) hls
  have e9 : (if Int32.ofInt y < Int32.ofInt x then Int32.ofInt y else Int32.ofInt x) = Int32.ofInt (min x y) := by
    rw [← Int32.toInt_inj, ft_toI hm]
    split
    · next q => rw [ft_ltI hy hx] at q; rw [ft_toI hy]; omega
    · next q => rw [ft_ltI hy hx] at q; rw [ft_toI hx]; omega
  refine va_mmin hC.1 hC.2.1 (hC.2.2.2.1.trans hls.1.symm) hC.2.2.2.2.1 (ft_hts hC _ (ft_gf hl)) (ft_hts hC _ (ft_gf ft_mathw.2.1)) (ft_hts hC _ (ft_gf ft_mathw.1)) (ft_hts hC _ (ft_gf ft_mathw.2.2.1)) hf ?_ (Nat.zero_le _) (Nat.zero_le _) hd ?_
  · have := ft_cs_ok (ad := ad) hcs
    omega
  · rw [e9]
    exact t
theorem fv_max {idx : Nat} {x y : Int} (hd : decode K.2.1 pc = .ok (.invokestatic idx, 3)) (hp : pc + 3 = pc') (hl : ft_g (.methodLink K.1.cls idx Lib.Math.max.name)) (hf : 1 ≤ K.2.2.2.2.frames) (hlo : 8 + 13 ≤ K.2.2.2.2.locals) (hcs : ft_cs st ≤ 8) (k : ft_V K pc' L (.inl (max x y) :: st) h R) : ft_V K pc L (.inl y :: .inl x :: st) h R := by
  intro p l e s m args below meth c D ad cA H locs ls hC hR hL hS hls
  subst hp
  have hy : ft_in y := ft_okh hS
  have hx : ft_in x := ft_okh (ft_okt hS)
  have hm : ft_in (max x y) := by unfold ft_in at *; omega
  have t := k p l e s m args below meth c D ad cA H locs ls hC hR hL (ft_okc (show ft_ok (.inl (max x y)) from hm) (ft_okt (ft_okt hS))) hls
  have e9 : (if Int32.ofInt x < Int32.ofInt y then Int32.ofInt y else Int32.ofInt x) = Int32.ofInt (max x y) := by
    rw [← Int32.toInt_inj, ft_toI hm]
    split
    · next q => rw [ft_ltI hx hy] at q; rw [ft_toI hy]; omega
    · next q => rw [ft_ltI hx hy] at q; rw [ft_toI hx]; omega
  refine va_mmax hC.1 hC.2.1 (hC.2.2.2.1.trans hls.1.symm) hC.2.2.2.2.1 (ft_hts hC _ (ft_gf hl)) (ft_hts hC _ (ft_gf ft_mathw.2.2.2.1)) (ft_hts hC _ (ft_gf ft_mathw.1)) (ft_hts hC _ (ft_gf ft_mathw.2.2.2.2)) hf ?_ (Nat.zero_le _) (Nat.zero_le _) hd ?_
  · have := ft_cs_ok (ad := ad) hcs
    omega
  · rw [e9]
    exact t
def ft_cp (h : ftH) (ks sp kd dp n : Nat) : ftH := fun k j => if k = kd ∧ dp ≤ j ∧ j < dp + n then h ks (sp + (j - dp)) else h k j
theorem ft_cp_ne {ks sp kd dp n : Nat} : ∀ a, a ≠ kd → ft_cp h ks sp kd dp n a = h a := fun a ha => by
  funext b
  unfold ft_cp
  rw [if_neg (fun q => ha q.1)]
theorem ft_wf_cp {ks sp kd dp n t n0 n1 : Nat} (hw : ft_wf h) (h0 : ft_sh ks = some (.inr (t, n0))) (h1 : ft_sh kd = some (.inr (t, n1))) : ft_wf (ft_cp h ks sp kd dp n) := by
  intro a b
  unfold ft_cp
  by_cases c : a = kd ∧ dp ≤ b ∧ b < dp + n
  · rw [if_pos c, c.1, ft_lgA h1]
    have := hw ks (sp + (b - dp))
    rw [ft_lgA h0] at this
    exact this
  · rw [if_neg c]
    exact hw a b
theorem ft_copyw : ft_g (.native arraycopyName) ∧ ft_g (.static arraycopyName) ∧ ft_g (.initialized "java/lang/System") := ⟨⟨by decide +kernel, by decide +kernel⟩, ⟨by decide +kernel, by decide +kernel⟩, ⟨by decide +kernel, by decide +kernel⟩⟩
theorem ft_nn {x : Int} (hx : ft_in x) (h0 : 0 ≤ x) : ¬ Int32.ofInt x < 0 := fun q => by
  rw [ft_0, ft_ltI hx ft_in0] at q
  omega
theorem fv_cpyI {idx a0 a n0 n1 : Nat} {sp dp n : Int} (hd : decode K.2.1 pc = .ok (.invokestatic idx, 3)) (hp : pc + 3 = pc') (hl : ft_g (.methodLink K.1.cls idx arraycopyName)) (hf : 1 ≤ K.2.2.2.2.frames) (hlo : 8 + 18 ≤ K.2.2.2.2.locals) (hcs : ft_cs st ≤ 8) (h0 : ft_sh a0 = some (.inr (0, n0))) (h1 : ft_sh a = some (.inr (0, n1)))
    (hb : 0 ≤ sp ∧ 0 ≤ dp ∧ 0 ≤ n ∧ sp + n ≤ (n0 : Int) ∧ dp + n ≤ (n1 : Int)) (k : ft_V K pc' L st (ft_cp h a0 sp.toNat a dp.toNat n.toNat) R) : ft_V K pc L (.inl n :: .inl dp :: .inr (.inr a) :: .inl sp :: .inr (.inr a0) :: st) h R := by
  intro p l e s m args below meth c D ad cA H locs ls hC hR hL hS hls
  subst hp
  have hn : ft_in n := ft_okh hS
  have hdp : ft_in dp := ft_okh (ft_okt hS)
  have hsp : ft_in sp := ft_okh (ft_okt (ft_okt (ft_okt hS)))
  refine va_copyi (f := fun j => Int32.ofInt (h a0 j)) (g := fun j => Int32.ofInt (h a j)) (ty := .int) hC.1 hC.2.1 (hC.2.2.2.1.trans hls.1.symm) hC.2.2.2.2.1 (ft_hts hC _ (ft_gf hl)) (ft_hts hC _ (ft_gf ft_copyw.1)) (ft_hts hC _ (ft_gf ft_copyw.2.1)) (ft_hts hC _ (ft_gf ft_copyw.2.2)) hC.2.2.2.2.2.2.2.1 hR.1 hR.2.1 hR.2.2.1 a0 a 0 0 (ft_ws_get h0) (ft_ws_get h1) rfl rfl rfl (ft_nn hsp hb.1) (ft_nn hdp hb.2.1) (ft_nn hn hb.2.2.1) (by rw [ft_cl hsp, ft_cl hn]; omega) (by rw [ft_cl hdp, ft_cl hn]; omega) (fun i _ => rfl) hf ?_ hd (fun H1 locs1 hP1 hD1 hS1 => ?_)
  · have := ft_cs_ok (ad := ad) hcs
    have e9 : nativeFrameWords "java/lang/System" "arraycopy" 5 = 7 := by decide +kernel
    rw [e9]
    omega
  · rw [ft_cl hsp, ft_cl hdp, ft_cl hn] at hP1 hD1
    have ef : va_cpy (fun j => Int32.ofInt (h a0 j)) (fun j => Int32.ofInt (h a j)) sp.toNat dp.toNat n.toNat = fun j => Int32.ofInt (ft_cp h a0 sp.toNat a dp.toNat n.toNat a j) := by
      funext j
      unfold va_cpy ft_cp
      by_cases q : dp.toNat ≤ j ∧ j < dp.toNat + n.toNat
      · rw [if_pos q, if_pos ⟨rfl, q⟩]
      · rw [if_neg q, if_neg (fun z => q z.2)]
    rw [ef] at hP1 hD1
    have hes : (ft_ws ad cA h).set a (ad a, .inl (cA 0, n1, .inl fun j => Int32.ofInt (ft_cp h a0 sp.toNat a dp.toNat n.toNat a j))) = ft_ws ad cA (ft_cp h a0 sp.toNat a dp.toNat n.toNat) := ft_ws_upd (ad := ad) (cA := cA) (h := h) (h' := ft_cp h a0 sp.toNat a dp.toNat n.toNat) (k := a) (sh := .inr (0, n1)) h1 ft_cp_ne
    rw [hes] at hP1 hD1
    exact k p l e s m args below meth c D ad cA H1 locs1 ls hC ⟨hP1, hD1, hS1, ft_wf_cp hR.2.2.2 h0 h1⟩ hL (ft_okt (ft_okt (ft_okt (ft_okt (ft_okt hS))))) hls
theorem fv_cpyL {idx a0 a n0 n1 : Nat} {sp dp n : Int} (hd : decode K.2.1 pc = .ok (.invokestatic idx, 3)) (hp : pc + 3 = pc') (hl : ft_g (.methodLink K.1.cls idx arraycopyName)) (hf : 1 ≤ K.2.2.2.2.frames) (hlo : 8 + 18 ≤ K.2.2.2.2.locals) (hcs : ft_cs st ≤ 8) (h0 : ft_sh a0 = some (.inr (1, n0))) (h1 : ft_sh a = some (.inr (1, n1)))
    (hb : 0 ≤ sp ∧ 0 ≤ dp ∧ 0 ≤ n ∧ sp + n ≤ (n0 : Int) ∧ dp + n ≤ (n1 : Int)) (k : ft_V K pc' L st (ft_cp h a0 sp.toNat a dp.toNat n.toNat) R) : ft_V K pc L (.inl n :: .inl dp :: .inr (.inr a) :: .inl sp :: .inr (.inr a0) :: st) h R := by
  intro p l e s m args below meth c D ad cA H locs ls hC hR hL hS hls
  subst hp
  have hn : ft_in n := ft_okh hS
  have hdp : ft_in dp := ft_okh (ft_okt hS)
  have hsp : ft_in sp := ft_okh (ft_okt (ft_okt (ft_okt hS)))
  refine va_copyl (f := fun j => Int64.ofInt (h a0 j)) (g := fun j => Int64.ofInt (h a j)) (ty := .long) hC.1 hC.2.1 (hC.2.2.2.1.trans hls.1.symm) hC.2.2.2.2.1 (ft_hts hC _ (ft_gf hl)) (ft_hts hC _ (ft_gf ft_copyw.1)) (ft_hts hC _ (ft_gf ft_copyw.2.1)) (ft_hts hC _ (ft_gf ft_copyw.2.2)) hC.2.2.2.2.2.2.2.1 hR.1 hR.2.1 hR.2.2.1 a0 a 1 1 (ft_ws_get h0) (ft_ws_get h1) rfl rfl rfl (ft_nn hsp hb.1) (ft_nn hdp hb.2.1) (ft_nn hn hb.2.2.1) (by rw [ft_cl hsp, ft_cl hn]; omega) (by rw [ft_cl hdp, ft_cl hn]; omega) (fun i _ => rfl) hf ?_ hd (fun H1 locs1 hP1 hD1 hS1 => ?_)
  · have := ft_cs_ok (ad := ad) hcs
    have e9 : nativeFrameWords "java/lang/System" "arraycopy" 5 = 7 := by decide +kernel
    rw [e9]
    omega
  · rw [ft_cl hsp, ft_cl hdp, ft_cl hn] at hP1 hD1
    have ef : va_cpy (fun j => Int64.ofInt (h a0 j)) (fun j => Int64.ofInt (h a j)) sp.toNat dp.toNat n.toNat = fun j => Int64.ofInt (ft_cp h a0 sp.toNat a dp.toNat n.toNat a j) := by
      funext j
      unfold va_cpy ft_cp
      by_cases q : dp.toNat ≤ j ∧ j < dp.toNat + n.toNat
      · rw [if_pos q, if_pos ⟨rfl, q⟩]
      · rw [if_neg q, if_neg (fun z => q z.2)]
    rw [ef] at hP1 hD1
    have hes : (ft_ws ad cA h).set a (ad a, .inl (cA 1, n1, .inr (.inl fun j => Int64.ofInt (ft_cp h a0 sp.toNat a dp.toNat n.toNat a j)))) = ft_ws ad cA (ft_cp h a0 sp.toNat a dp.toNat n.toNat) := ft_ws_upd (ad := ad) (cA := cA) (h := h) (h' := ft_cp h a0 sp.toNat a dp.toNat n.toNat) (k := a) (sh := .inr (1, n1)) h1 ft_cp_ne
    rw [hes] at hP1 hD1
    exact k p l e s m args below meth c D ad cA H1 locs1 ls hC ⟨hP1, hD1, hS1, ft_wf_cp hR.2.2.2 h0 h1⟩ hL (ft_okt (ft_okt (ft_okt (ft_okt (ft_okt hS))))) hls
end FVC
end
