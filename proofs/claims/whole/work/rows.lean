section
-- ===== PART A: goes FIRST, ahead of the names: the tables' words, and 'selects' of the private methods out of them =====
/-- a private method of a class that the tables say can be made, by its rows of tables_1 -/
def lw_okq (q : MethodName × Nat) : Prop := (q.1.cls ≠ "java/lang/invoke/MethodHandle" ∧ q.1.cls ≠ "java/lang/invoke/VarHandle") ∧ Cond.instantiable q.1.cls q.2 ∈ tables_1 ∧ Cond.privateMethod q.1 ∈ tables_1 ∧ Cond.instanceMethod q.1 ∈ tables_1
theorem lw_p0 : lw_okq (⟨"CopperBoard$Tape", "readSetting", "()Z"⟩, 6) := ⟨⟨by decide +kernel, by decide +kernel⟩, List.mem_of_getElem? (i := 116) (by decide +kernel), List.mem_of_getElem? (i := 553) (by decide +kernel), List.mem_of_getElem? (i := 554) (by decide +kernel)⟩
theorem lw_p1 : lw_okq (⟨"CopperBoard$Tape", "skipBlanks", "()V"⟩, 6) := ⟨⟨by decide +kernel, by decide +kernel⟩, List.mem_of_getElem? (i := 116) (by decide +kernel), List.mem_of_getElem? (i := 557) (by decide +kernel), List.mem_of_getElem? (i := 558) (by decide +kernel)⟩
theorem lw_p2 : lw_okq (⟨"CopperBoard$Tape", "kindHere", "()I"⟩, 6) := ⟨⟨by decide +kernel, by decide +kernel⟩, List.mem_of_getElem? (i := 116) (by decide +kernel), List.mem_of_getElem? (i := 561) (by decide +kernel), List.mem_of_getElem? (i := 562) (by decide +kernel)⟩
theorem lw_p3 : lw_okq (⟨"CopperBoard$Tape", "readLayers", "()Z"⟩, 6) := ⟨⟨by decide +kernel, by decide +kernel⟩, List.mem_of_getElem? (i := 116) (by decide +kernel), List.mem_of_getElem? (i := 567) (by decide +kernel), List.mem_of_getElem? (i := 568) (by decide +kernel)⟩
theorem lw_p4 : lw_okq (⟨"CopperBoard$Tape", "digitHere", "()I"⟩, 6) := ⟨⟨by decide +kernel, by decide +kernel⟩, List.mem_of_getElem? (i := 116) (by decide +kernel), List.mem_of_getElem? (i := 571) (by decide +kernel), List.mem_of_getElem? (i := 572) (by decide +kernel)⟩
theorem lw_p5 : lw_okq (⟨"CopperBoard$Tape", "readNumber", "(I)Z"⟩, 6) := ⟨⟨by decide +kernel, by decide +kernel⟩, List.mem_of_getElem? (i := 116) (by decide +kernel), List.mem_of_getElem? (i := 575) (by decide +kernel), List.mem_of_getElem? (i := 576) (by decide +kernel)⟩
theorem lw_p6 : lw_okq (⟨"CopperBoard", "isNet", "(I)Z"⟩, 11) := ⟨⟨by decide +kernel, by decide +kernel⟩, List.mem_of_getElem? (i := 24) (by decide +kernel), List.mem_of_getElem? (i := 610) (by decide +kernel), List.mem_of_getElem? (i := 611) (by decide +kernel)⟩
theorem lw_p7 : lw_okq (⟨"CopperBoard$Nets", "join", "([I[IIII)I"⟩, 15) := ⟨⟨by decide +kernel, by decide +kernel⟩, List.mem_of_getElem? (i := 143) (by decide +kernel), List.mem_of_getElem? (i := 649) (by decide +kernel), List.mem_of_getElem? (i := 650) (by decide +kernel)⟩
theorem lw_p8 : lw_okq (⟨"CopperBoard$Room", "partOthers", "(I)V"⟩, 10) := ⟨⟨by decide +kernel, by decide +kernel⟩, List.mem_of_getElem? (i := 221) (by decide +kernel), List.mem_of_getElem? (i := 676) (by decide +kernel), List.mem_of_getElem? (i := 677) (by decide +kernel)⟩
theorem lw_p9 : lw_okq (⟨"CopperBoard$Room", "spreadAll", "(III)V"⟩, 10) := ⟨⟨by decide +kernel, by decide +kernel⟩, List.mem_of_getElem? (i := 221) (by decide +kernel), List.mem_of_getElem? (i := 686) (by decide +kernel), List.mem_of_getElem? (i := 687) (by decide +kernel)⟩
theorem lw_p10 : lw_okq (⟨"CopperBoard$Room", "spread", "(IIII)V"⟩, 10) := ⟨⟨by decide +kernel, by decide +kernel⟩, List.mem_of_getElem? (i := 221) (by decide +kernel), List.mem_of_getElem? (i := 690) (by decide +kernel), List.mem_of_getElem? (i := 691) (by decide +kernel)⟩
theorem lw_p11 : lw_okq (⟨"CopperBoard$Room", "isClear", "(II)Z"⟩, 10) := ⟨⟨by decide +kernel, by decide +kernel⟩, List.mem_of_getElem? (i := 221) (by decide +kernel), List.mem_of_getElem? (i := 699) (by decide +kernel), List.mem_of_getElem? (i := 700) (by decide +kernel)⟩
theorem lw_p12 : lw_okq (⟨"CopperBoard$Router", "markJoined", "(I)V"⟩, 15) := ⟨⟨by decide +kernel, by decide +kernel⟩, List.mem_of_getElem? (i := 270) (by decide +kernel), List.mem_of_getElem? (i := 745) (by decide +kernel), List.mem_of_getElem? (i := 746) (by decide +kernel)⟩
theorem lw_p13 : lw_okq (⟨"CopperBoard$Router", "search", "(I)Z"⟩, 15) := ⟨⟨by decide +kernel, by decide +kernel⟩, List.mem_of_getElem? (i := 270) (by decide +kernel), List.mem_of_getElem? (i := 755) (by decide +kernel), List.mem_of_getElem? (i := 756) (by decide +kernel)⟩
theorem lw_p14 : lw_okq (⟨"CopperBoard$Router", "offer", "(II)V"⟩, 15) := ⟨⟨by decide +kernel, by decide +kernel⟩, List.mem_of_getElem? (i := 270) (by decide +kernel), List.mem_of_getElem? (i := 761) (by decide +kernel), List.mem_of_getElem? (i := 762) (by decide +kernel)⟩
theorem lw_p15 : lw_okq (⟨"CopperBoard$Router", "takeLeast", "()I"⟩, 15) := ⟨⟨by decide +kernel, by decide +kernel⟩, List.mem_of_getElem? (i := 270) (by decide +kernel), List.mem_of_getElem? (i := 765) (by decide +kernel), List.mem_of_getElem? (i := 766) (by decide +kernel)⟩
def lw_privs_1 : List (MethodName × Nat) := [(⟨"CopperBoard$Tape", "readSetting", "()Z"⟩, 6), (⟨"CopperBoard$Tape", "skipBlanks", "()V"⟩, 6), (⟨"CopperBoard$Tape", "kindHere", "()I"⟩, 6), (⟨"CopperBoard$Tape", "readLayers", "()Z"⟩, 6), (⟨"CopperBoard$Tape", "digitHere", "()I"⟩, 6), (⟨"CopperBoard$Tape", "readNumber", "(I)Z"⟩, 6), (⟨"CopperBoard", "isNet", "(I)Z"⟩, 11), (⟨"CopperBoard$Nets", "join", "([I[IIII)I"⟩, 15), (⟨"CopperBoard$Room", "partOthers", "(I)V"⟩, 10), (⟨"CopperBoard$Room", "spreadAll", "(III)V"⟩, 10), (⟨"CopperBoard$Room", "spread", "(IIII)V"⟩, 10), (⟨"CopperBoard$Room", "isClear", "(II)Z"⟩, 10), (⟨"CopperBoard$Router", "markJoined", "(I)V"⟩, 15), (⟨"CopperBoard$Router", "search", "(I)Z"⟩, 15), (⟨"CopperBoard$Router", "offer", "(II)V"⟩, 15), (⟨"CopperBoard$Router", "takeLeast", "()I"⟩, 15)]
theorem lw_r1 : ∀ q ∈ lw_privs_1, lw_okq q := List.forall_mem_cons.mpr ⟨lw_p0, List.forall_mem_cons.mpr ⟨lw_p1, List.forall_mem_cons.mpr ⟨lw_p2, List.forall_mem_cons.mpr ⟨lw_p3, List.forall_mem_cons.mpr ⟨lw_p4, List.forall_mem_cons.mpr ⟨lw_p5, List.forall_mem_cons.mpr ⟨lw_p6, List.forall_mem_cons.mpr ⟨lw_p7, List.forall_mem_cons.mpr ⟨lw_p8, List.forall_mem_cons.mpr ⟨lw_p9, List.forall_mem_cons.mpr ⟨lw_p10, List.forall_mem_cons.mpr ⟨lw_p11, List.forall_mem_cons.mpr ⟨lw_p12, List.forall_mem_cons.mpr ⟨lw_p13, List.forall_mem_cons.mpr ⟨lw_p14, List.forall_mem_cons.mpr ⟨lw_p15, fun _ h => absurd h List.not_mem_nil⟩⟩⟩⟩⟩⟩⟩⟩⟩⟩⟩⟩⟩⟩⟩⟩
theorem lw_p16 : lw_okq (⟨"CopperBoard$Router", "comeFrom", "(I)V"⟩, 15) := ⟨⟨by decide +kernel, by decide +kernel⟩, List.mem_of_getElem? (i := 270) (by decide +kernel), List.mem_of_getElem? (i := 769) (by decide +kernel), List.mem_of_getElem? (i := 770) (by decide +kernel)⟩
theorem lw_p17 : lw_okq (⟨"CopperBoard$Router", "bendFrom", "(II)I"⟩, 15) := ⟨⟨by decide +kernel, by decide +kernel⟩, List.mem_of_getElem? (i := 270) (by decide +kernel), List.mem_of_getElem? (i := 774) (by decide +kernel), List.mem_of_getElem? (i := 775) (by decide +kernel)⟩
theorem lw_p18 : lw_okq (⟨"CopperBoard$Router", "walk", "(II)V"⟩, 15) := ⟨⟨by decide +kernel, by decide +kernel⟩, List.mem_of_getElem? (i := 270) (by decide +kernel), List.mem_of_getElem? (i := 778) (by decide +kernel), List.mem_of_getElem? (i := 779) (by decide +kernel)⟩
theorem lw_p19 : lw_okq (⟨"CopperBoard$Router", "firstMove", "(II)I"⟩, 15) := ⟨⟨by decide +kernel, by decide +kernel⟩, List.mem_of_getElem? (i := 270) (by decide +kernel), List.mem_of_getElem? (i := 782) (by decide +kernel), List.mem_of_getElem? (i := 783) (by decide +kernel)⟩
theorem lw_p20 : lw_okq (⟨"CopperBoard$Router", "laneBehind", "(II)I"⟩, 15) := ⟨⟨by decide +kernel, by decide +kernel⟩, List.mem_of_getElem? (i := 270) (by decide +kernel), List.mem_of_getElem? (i := 786) (by decide +kernel), List.mem_of_getElem? (i := 787) (by decide +kernel)⟩
theorem lw_p21 : lw_okq (⟨"CopperBoard$Nets", "anyMove", "([III)Z"⟩, 15) := ⟨⟨by decide +kernel, by decide +kernel⟩, List.mem_of_getElem? (i := 143) (by decide +kernel), List.mem_of_getElem? (i := 818) (by decide +kernel), List.mem_of_getElem? (i := 819) (by decide +kernel)⟩
theorem lw_p22 : lw_okq (⟨"CopperBoard$Presser", "layTurn", "(I)Z"⟩, 6) := ⟨⟨by decide +kernel, by decide +kernel⟩, List.mem_of_getElem? (i := 323) (by decide +kernel), List.mem_of_getElem? (i := 854) (by decide +kernel), List.mem_of_getElem? (i := 855) (by decide +kernel)⟩
theorem lw_p23 : lw_okq (⟨"CopperBoard$Presser", "warmCrowded", "()Z"⟩, 6) := ⟨⟨by decide +kernel, by decide +kernel⟩, List.mem_of_getElem? (i := 323) (by decide +kernel), List.mem_of_getElem? (i := 868) (by decide +kernel), List.mem_of_getElem? (i := 869) (by decide +kernel)⟩
theorem lw_p24 : lw_okq (⟨"CopperBoard$Chooser", "isWall", "(I)Z"⟩, 4) := ⟨⟨by decide +kernel, by decide +kernel⟩, List.mem_of_getElem? (i := 348) (by decide +kernel), List.mem_of_getElem? (i := 886) (by decide +kernel), List.mem_of_getElem? (i := 887) (by decide +kernel)⟩
theorem lw_p25 : lw_okq (⟨"CopperBoard$Chooser", "othersWithTraces", "(I)I"⟩, 4) := ⟨⟨by decide +kernel, by decide +kernel⟩, List.mem_of_getElem? (i := 348) (by decide +kernel), List.mem_of_getElem? (i := 900) (by decide +kernel), List.mem_of_getElem? (i := 901) (by decide +kernel)⟩
theorem lw_p26 : lw_okq (⟨"CopperBoard", "areNets", "(I)Z"⟩, 11) := ⟨⟨by decide +kernel, by decide +kernel⟩, List.mem_of_getElem? (i := 24) (by decide +kernel), List.mem_of_getElem? (i := 919) (by decide +kernel), List.mem_of_getElem? (i := 920) (by decide +kernel)⟩
theorem lw_p27 : lw_okq (⟨"CopperBoard$Trial", "openCells", "(II)I"⟩, 11) := ⟨⟨by decide +kernel, by decide +kernel⟩, List.mem_of_getElem? (i := 367) (by decide +kernel), List.mem_of_getElem? (i := 932) (by decide +kernel), List.mem_of_getElem? (i := 933) (by decide +kernel)⟩
theorem lw_p28 : lw_okq (⟨"CopperBoard$Trial", "laterCanJoin", "(II)Z"⟩, 11) := ⟨⟨by decide +kernel, by decide +kernel⟩, List.mem_of_getElem? (i := 367) (by decide +kernel), List.mem_of_getElem? (i := 938) (by decide +kernel), List.mem_of_getElem? (i := 939) (by decide +kernel)⟩
theorem lw_p29 : lw_okq (⟨"CopperBoard$Trial", "openAt", "(II)I"⟩, 11) := ⟨⟨by decide +kernel, by decide +kernel⟩, List.mem_of_getElem? (i := 367) (by decide +kernel), List.mem_of_getElem? (i := 943) (by decide +kernel), List.mem_of_getElem? (i := 944) (by decide +kernel)⟩
theorem lw_p30 : lw_okq (⟨"CopperBoard$Trial", "widened", "(II)I"⟩, 11) := ⟨⟨by decide +kernel, by decide +kernel⟩, List.mem_of_getElem? (i := 367) (by decide +kernel), List.mem_of_getElem? (i := 949) (by decide +kernel), List.mem_of_getElem? (i := 950) (by decide +kernel)⟩
theorem lw_p31 : lw_okq (⟨"CopperBoard$Trial", "canReach", "(III)Z"⟩, 11) := ⟨⟨by decide +kernel, by decide +kernel⟩, List.mem_of_getElem? (i := 367) (by decide +kernel), List.mem_of_getElem? (i := 953) (by decide +kernel), List.mem_of_getElem? (i := 954) (by decide +kernel)⟩
def lw_privs_2 : List (MethodName × Nat) := [(⟨"CopperBoard$Router", "comeFrom", "(I)V"⟩, 15), (⟨"CopperBoard$Router", "bendFrom", "(II)I"⟩, 15), (⟨"CopperBoard$Router", "walk", "(II)V"⟩, 15), (⟨"CopperBoard$Router", "firstMove", "(II)I"⟩, 15), (⟨"CopperBoard$Router", "laneBehind", "(II)I"⟩, 15), (⟨"CopperBoard$Nets", "anyMove", "([III)Z"⟩, 15), (⟨"CopperBoard$Presser", "layTurn", "(I)Z"⟩, 6), (⟨"CopperBoard$Presser", "warmCrowded", "()Z"⟩, 6), (⟨"CopperBoard$Chooser", "isWall", "(I)Z"⟩, 4), (⟨"CopperBoard$Chooser", "othersWithTraces", "(I)I"⟩, 4), (⟨"CopperBoard", "areNets", "(I)Z"⟩, 11), (⟨"CopperBoard$Trial", "openCells", "(II)I"⟩, 11), (⟨"CopperBoard$Trial", "laterCanJoin", "(II)Z"⟩, 11), (⟨"CopperBoard$Trial", "openAt", "(II)I"⟩, 11), (⟨"CopperBoard$Trial", "widened", "(II)I"⟩, 11), (⟨"CopperBoard$Trial", "canReach", "(III)Z"⟩, 11)]
theorem lw_r2 : ∀ q ∈ lw_privs_2, lw_okq q := List.forall_mem_cons.mpr ⟨lw_p16, List.forall_mem_cons.mpr ⟨lw_p17, List.forall_mem_cons.mpr ⟨lw_p18, List.forall_mem_cons.mpr ⟨lw_p19, List.forall_mem_cons.mpr ⟨lw_p20, List.forall_mem_cons.mpr ⟨lw_p21, List.forall_mem_cons.mpr ⟨lw_p22, List.forall_mem_cons.mpr ⟨lw_p23, List.forall_mem_cons.mpr ⟨lw_p24, List.forall_mem_cons.mpr ⟨lw_p25, List.forall_mem_cons.mpr ⟨lw_p26, List.forall_mem_cons.mpr ⟨lw_p27, List.forall_mem_cons.mpr ⟨lw_p28, List.forall_mem_cons.mpr ⟨lw_p29, List.forall_mem_cons.mpr ⟨lw_p30, List.forall_mem_cons.mpr ⟨lw_p31, fun _ h => absurd h List.not_mem_nil⟩⟩⟩⟩⟩⟩⟩⟩⟩⟩⟩⟩⟩⟩⟩⟩
theorem lw_p32 : lw_okq (⟨"CopperBoard$Trial", "oneMove", "(I)I"⟩, 11) := ⟨⟨by decide +kernel, by decide +kernel⟩, List.mem_of_getElem? (i := 367) (by decide +kernel), List.mem_of_getElem? (i := 957) (by decide +kernel), List.mem_of_getElem? (i := 958) (by decide +kernel)⟩
theorem lw_p33 : lw_okq (⟨"CopperBoard$Trial", "findWays", "(II)Z"⟩, 11) := ⟨⟨by decide +kernel, by decide +kernel⟩, List.mem_of_getElem? (i := 367) (by decide +kernel), List.mem_of_getElem? (i := 961) (by decide +kernel), List.mem_of_getElem? (i := 962) (by decide +kernel)⟩
theorem lw_p34 : lw_okq (⟨"CopperBoard$Trial", "extend", "(IIII)Z"⟩, 11) := ⟨⟨by decide +kernel, by decide +kernel⟩, List.mem_of_getElem? (i := 367) (by decide +kernel), List.mem_of_getElem? (i := 965) (by decide +kernel), List.mem_of_getElem? (i := 966) (by decide +kernel)⟩
theorem lw_p35 : lw_okq (⟨"CopperBoard$Trail", "follow", "(I)V"⟩, 6) := ⟨⟨by decide +kernel, by decide +kernel⟩, List.mem_of_getElem? (i := 469) (by decide +kernel), List.mem_of_getElem? (i := 1003) (by decide +kernel), List.mem_of_getElem? (i := 1004) (by decide +kernel)⟩
theorem lw_p36 : lw_okq (⟨"CopperBoard$Trail", "goBeside", "(IIII)Z"⟩, 6) := ⟨⟨by decide +kernel, by decide +kernel⟩, List.mem_of_getElem? (i := 469) (by decide +kernel), List.mem_of_getElem? (i := 1014) (by decide +kernel), List.mem_of_getElem? (i := 1015) (by decide +kernel)⟩
theorem lw_p37 : lw_okq (⟨"CopperBoard$Trail", "isOpen", "(II)Z"⟩, 6) := ⟨⟨by decide +kernel, by decide +kernel⟩, List.mem_of_getElem? (i := 469) (by decide +kernel), List.mem_of_getElem? (i := 1018) (by decide +kernel), List.mem_of_getElem? (i := 1019) (by decide +kernel)⟩
theorem lw_p38 : lw_okq (⟨"CopperBoard", "isLayer", "(I)Z"⟩, 11) := ⟨⟨by decide +kernel, by decide +kernel⟩, List.mem_of_getElem? (i := 24) (by decide +kernel), List.mem_of_getElem? (i := 1041) (by decide +kernel), List.mem_of_getElem? (i := 1042) (by decide +kernel)⟩
theorem lw_p39 : lw_okq (⟨"CopperBoard$Planes", "partPlane", "(I)V"⟩, 5) := ⟨⟨by decide +kernel, by decide +kernel⟩, List.mem_of_getElem? (i := 407) (by decide +kernel), List.mem_of_getElem? (i := 1054) (by decide +kernel), List.mem_of_getElem? (i := 1055) (by decide +kernel)⟩
theorem lw_p40 : lw_okq (⟨"CopperBoard$Planes", "hasOwn", "(I)Z"⟩, 5) := ⟨⟨by decide +kernel, by decide +kernel⟩, List.mem_of_getElem? (i := 407) (by decide +kernel), List.mem_of_getElem? (i := 1060) (by decide +kernel), List.mem_of_getElem? (i := 1061) (by decide +kernel)⟩
theorem lw_p41 : lw_okq (⟨"CopperBoard$Planes", "necks", "(I)I"⟩, 5) := ⟨⟨by decide +kernel, by decide +kernel⟩, List.mem_of_getElem? (i := 407) (by decide +kernel), List.mem_of_getElem? (i := 1064) (by decide +kernel), List.mem_of_getElem? (i := 1065) (by decide +kernel)⟩
theorem lw_p42 : lw_okq (⟨"CopperBoard$Checks", "judgeVia", "(II)V"⟩, 9) := ⟨⟨by decide +kernel, by decide +kernel⟩, List.mem_of_getElem? (i := 429) (by decide +kernel), List.mem_of_getElem? (i := 1096) (by decide +kernel), List.mem_of_getElem? (i := 1097) (by decide +kernel)⟩
theorem lw_p43 : lw_okq (⟨"CopperBoard$Nets", "settle", "(I)V"⟩, 15) := ⟨⟨by decide +kernel, by decide +kernel⟩, List.mem_of_getElem? (i := 143) (by decide +kernel), List.mem_of_getElem? (i := 1123) (by decide +kernel), List.mem_of_getElem? (i := 1124) (by decide +kernel)⟩
theorem lw_p44 : lw_okq (⟨"CopperBoard$Chooser", "layWith", "(II)Z"⟩, 4) := ⟨⟨by decide +kernel, by decide +kernel⟩, List.mem_of_getElem? (i := 348) (by decide +kernel), List.mem_of_getElem? (i := 1127) (by decide +kernel), List.mem_of_getElem? (i := 1128) (by decide +kernel)⟩
theorem lw_p45 : lw_okq (⟨"CopperBoard$Checks", "joinFrom", "(I)I"⟩, 9) := ⟨⟨by decide +kernel, by decide +kernel⟩, List.mem_of_getElem? (i := 429) (by decide +kernel), List.mem_of_getElem? (i := 1142) (by decide +kernel), List.mem_of_getElem? (i := 1143) (by decide +kernel)⟩
theorem lw_p46 : lw_okq (⟨"CopperBoard$Checks", "allMovesAt", "(I)I"⟩, 9) := ⟨⟨by decide +kernel, by decide +kernel⟩, List.mem_of_getElem? (i := 429) (by decide +kernel), List.mem_of_getElem? (i := 1146) (by decide +kernel), List.mem_of_getElem? (i := 1147) (by decide +kernel)⟩
theorem lw_p47 : lw_okq (⟨"CopperBoard$Checks", "areJoined", "(I)Z"⟩, 9) := ⟨⟨by decide +kernel, by decide +kernel⟩, List.mem_of_getElem? (i := 429) (by decide +kernel), List.mem_of_getElem? (i := 1154) (by decide +kernel), List.mem_of_getElem? (i := 1155) (by decide +kernel)⟩
def lw_privs_3 : List (MethodName × Nat) := [(⟨"CopperBoard$Trial", "oneMove", "(I)I"⟩, 11), (⟨"CopperBoard$Trial", "findWays", "(II)Z"⟩, 11), (⟨"CopperBoard$Trial", "extend", "(IIII)Z"⟩, 11), (⟨"CopperBoard$Trail", "follow", "(I)V"⟩, 6), (⟨"CopperBoard$Trail", "goBeside", "(IIII)Z"⟩, 6), (⟨"CopperBoard$Trail", "isOpen", "(II)Z"⟩, 6), (⟨"CopperBoard", "isLayer", "(I)Z"⟩, 11), (⟨"CopperBoard$Planes", "partPlane", "(I)V"⟩, 5), (⟨"CopperBoard$Planes", "hasOwn", "(I)Z"⟩, 5), (⟨"CopperBoard$Planes", "necks", "(I)I"⟩, 5), (⟨"CopperBoard$Checks", "judgeVia", "(II)V"⟩, 9), (⟨"CopperBoard$Nets", "settle", "(I)V"⟩, 15), (⟨"CopperBoard$Chooser", "layWith", "(II)Z"⟩, 4), (⟨"CopperBoard$Checks", "joinFrom", "(I)I"⟩, 9), (⟨"CopperBoard$Checks", "allMovesAt", "(I)I"⟩, 9), (⟨"CopperBoard$Checks", "areJoined", "(I)Z"⟩, 9)]
theorem lw_r3 : ∀ q ∈ lw_privs_3, lw_okq q := List.forall_mem_cons.mpr ⟨lw_p32, List.forall_mem_cons.mpr ⟨lw_p33, List.forall_mem_cons.mpr ⟨lw_p34, List.forall_mem_cons.mpr ⟨lw_p35, List.forall_mem_cons.mpr ⟨lw_p36, List.forall_mem_cons.mpr ⟨lw_p37, List.forall_mem_cons.mpr ⟨lw_p38, List.forall_mem_cons.mpr ⟨lw_p39, List.forall_mem_cons.mpr ⟨lw_p40, List.forall_mem_cons.mpr ⟨lw_p41, List.forall_mem_cons.mpr ⟨lw_p42, List.forall_mem_cons.mpr ⟨lw_p43, List.forall_mem_cons.mpr ⟨lw_p44, List.forall_mem_cons.mpr ⟨lw_p45, List.forall_mem_cons.mpr ⟨lw_p46, List.forall_mem_cons.mpr ⟨lw_p47, fun _ h => absurd h List.not_mem_nil⟩⟩⟩⟩⟩⟩⟩⟩⟩⟩⟩⟩⟩⟩⟩⟩
theorem lw_p48 : lw_okq (⟨"CopperBoard$Checks", "isNewPart", "(II)Z"⟩, 9) := ⟨⟨by decide +kernel, by decide +kernel⟩, List.mem_of_getElem? (i := 429) (by decide +kernel), List.mem_of_getElem? (i := 1162) (by decide +kernel), List.mem_of_getElem? (i := 1163) (by decide +kernel)⟩
theorem lw_p49 : lw_okq (⟨"CopperBoard$Checks", "isBeside", "(III)Z"⟩, 9) := ⟨⟨by decide +kernel, by decide +kernel⟩, List.mem_of_getElem? (i := 429) (by decide +kernel), List.mem_of_getElem? (i := 1200) (by decide +kernel), List.mem_of_getElem? (i := 1201) (by decide +kernel)⟩
theorem lw_p50 : lw_okq (⟨"CopperBoard$Trail", "touches", "(II)Z"⟩, 6) := ⟨⟨by decide +kernel, by decide +kernel⟩, List.mem_of_getElem? (i := 469) (by decide +kernel), List.mem_of_getElem? (i := 1208) (by decide +kernel), List.mem_of_getElem? (i := 1209) (by decide +kernel)⟩
theorem lw_p51 : lw_okq (⟨"CopperBoard$Presser", "withPins", "()I"⟩, 6) := ⟨⟨by decide +kernel, by decide +kernel⟩, List.mem_of_getElem? (i := 323) (by decide +kernel), List.mem_of_getElem? (i := 1226) (by decide +kernel), List.mem_of_getElem? (i := 1227) (by decide +kernel)⟩
theorem lw_p52 : lw_okq (⟨"CopperBoard$Presser", "wholeFigure", "(Z)I"⟩, 6) := ⟨⟨by decide +kernel, by decide +kernel⟩, List.mem_of_getElem? (i := 323) (by decide +kernel), List.mem_of_getElem? (i := 1230) (by decide +kernel), List.mem_of_getElem? (i := 1231) (by decide +kernel)⟩
theorem lw_p53 : lw_okq (⟨"CopperBoard$Chooser", "fewestByRows", "(I)I"⟩, 4) := ⟨⟨by decide +kernel, by decide +kernel⟩, List.mem_of_getElem? (i := 348) (by decide +kernel), List.mem_of_getElem? (i := 1253) (by decide +kernel), List.mem_of_getElem? (i := 1254) (by decide +kernel)⟩
theorem lw_p54 : lw_okq (⟨"CopperBoard$Chooser", "layFlat", "(II)Z"⟩, 4) := ⟨⟨by decide +kernel, by decide +kernel⟩, List.mem_of_getElem? (i := 348) (by decide +kernel), List.mem_of_getElem? (i := 1258) (by decide +kernel), List.mem_of_getElem? (i := 1259) (by decide +kernel)⟩
theorem lw_p55 : lw_okq (⟨"CopperBoard", "splitSheet", "(IIIZ)I"⟩, 11) := ⟨⟨by decide +kernel, by decide +kernel⟩, List.mem_of_getElem? (i := 24) (by decide +kernel), List.mem_of_getElem? (i := 1275) (by decide +kernel), List.mem_of_getElem? (i := 1276) (by decide +kernel)⟩
theorem lw_p56 : lw_okq (⟨"java/lang/Throwable", "fillInStackTrace", "(I)Ljava/lang/Throwable;"⟩, 6) := ⟨⟨by decide +kernel, by decide +kernel⟩, List.mem_of_getElem? (i := 1342) (by decide +kernel), List.mem_of_getElem? (i := 1340) (by decide +kernel), List.mem_of_getElem? (i := 1341) (by decide +kernel)⟩
theorem lw_p57 : lw_okq (⟨"CopperBoardModel", "readSort", "(I)I"⟩, 54) := ⟨⟨by decide +kernel, by decide +kernel⟩, List.mem_of_getElem? (i := 1372) (by decide +kernel), List.mem_of_getElem? (i := 1566) (by decide +kernel), List.mem_of_getElem? (i := 1567) (by decide +kernel)⟩
theorem lw_p58 : lw_okq (⟨"CopperBoardModel", "setting", "(I)V"⟩, 54) := ⟨⟨by decide +kernel, by decide +kernel⟩, List.mem_of_getElem? (i := 1372) (by decide +kernel), List.mem_of_getElem? (i := 1570) (by decide +kernel), List.mem_of_getElem? (i := 1571) (by decide +kernel)⟩
theorem lw_p59 : lw_okq (⟨"CopperBoardModel", "look", "()I"⟩, 54) := ⟨⟨by decide +kernel, by decide +kernel⟩, List.mem_of_getElem? (i := 1372) (by decide +kernel), List.mem_of_getElem? (i := 1574) (by decide +kernel), List.mem_of_getElem? (i := 1575) (by decide +kernel)⟩
theorem lw_p60 : lw_okq (⟨"CopperBoardModel", "here", "()I"⟩, 54) := ⟨⟨by decide +kernel, by decide +kernel⟩, List.mem_of_getElem? (i := 1372) (by decide +kernel), List.mem_of_getElem? (i := 1578) (by decide +kernel), List.mem_of_getElem? (i := 1579) (by decide +kernel)⟩
theorem lw_p61 : lw_okq (⟨"CopperBoardModel", "letterAt", "(I)I"⟩, 54) := ⟨⟨by decide +kernel, by decide +kernel⟩, List.mem_of_getElem? (i := 1372) (by decide +kernel), List.mem_of_getElem? (i := 1582) (by decide +kernel), List.mem_of_getElem? (i := 1583) (by decide +kernel)⟩
theorem lw_p62 : lw_okq (⟨"CopperBoardModel", "bad", "()V"⟩, 54) := ⟨⟨by decide +kernel, by decide +kernel⟩, List.mem_of_getElem? (i := 1372) (by decide +kernel), List.mem_of_getElem? (i := 1586) (by decide +kernel), List.mem_of_getElem? (i := 1587) (by decide +kernel)⟩
theorem lw_p63 : lw_okq (⟨"CopperBoardModel", "number", "(II)I"⟩, 54) := ⟨⟨by decide +kernel, by decide +kernel⟩, List.mem_of_getElem? (i := 1372) (by decide +kernel), List.mem_of_getElem? (i := 1590) (by decide +kernel), List.mem_of_getElem? (i := 1591) (by decide +kernel)⟩
def lw_privs_4 : List (MethodName × Nat) := [(⟨"CopperBoard$Checks", "isNewPart", "(II)Z"⟩, 9), (⟨"CopperBoard$Checks", "isBeside", "(III)Z"⟩, 9), (⟨"CopperBoard$Trail", "touches", "(II)Z"⟩, 6), (⟨"CopperBoard$Presser", "withPins", "()I"⟩, 6), (⟨"CopperBoard$Presser", "wholeFigure", "(Z)I"⟩, 6), (⟨"CopperBoard$Chooser", "fewestByRows", "(I)I"⟩, 4), (⟨"CopperBoard$Chooser", "layFlat", "(II)Z"⟩, 4), (⟨"CopperBoard", "splitSheet", "(IIIZ)I"⟩, 11), (⟨"java/lang/Throwable", "fillInStackTrace", "(I)Ljava/lang/Throwable;"⟩, 6), (⟨"CopperBoardModel", "readSort", "(I)I"⟩, 54), (⟨"CopperBoardModel", "setting", "(I)V"⟩, 54), (⟨"CopperBoardModel", "look", "()I"⟩, 54), (⟨"CopperBoardModel", "here", "()I"⟩, 54), (⟨"CopperBoardModel", "letterAt", "(I)I"⟩, 54), (⟨"CopperBoardModel", "bad", "()V"⟩, 54), (⟨"CopperBoardModel", "number", "(II)I"⟩, 54)]
theorem lw_r4 : ∀ q ∈ lw_privs_4, lw_okq q := List.forall_mem_cons.mpr ⟨lw_p48, List.forall_mem_cons.mpr ⟨lw_p49, List.forall_mem_cons.mpr ⟨lw_p50, List.forall_mem_cons.mpr ⟨lw_p51, List.forall_mem_cons.mpr ⟨lw_p52, List.forall_mem_cons.mpr ⟨lw_p53, List.forall_mem_cons.mpr ⟨lw_p54, List.forall_mem_cons.mpr ⟨lw_p55, List.forall_mem_cons.mpr ⟨lw_p56, List.forall_mem_cons.mpr ⟨lw_p57, List.forall_mem_cons.mpr ⟨lw_p58, List.forall_mem_cons.mpr ⟨lw_p59, List.forall_mem_cons.mpr ⟨lw_p60, List.forall_mem_cons.mpr ⟨lw_p61, List.forall_mem_cons.mpr ⟨lw_p62, List.forall_mem_cons.mpr ⟨lw_p63, fun _ h => absurd h List.not_mem_nil⟩⟩⟩⟩⟩⟩⟩⟩⟩⟩⟩⟩⟩⟩⟩⟩
theorem lw_p64 : lw_okq (⟨"CopperBoardModel", "readLayers", "(I)V"⟩, 54) := ⟨⟨by decide +kernel, by decide +kernel⟩, List.mem_of_getElem? (i := 1372) (by decide +kernel), List.mem_of_getElem? (i := 1600) (by decide +kernel), List.mem_of_getElem? (i := 1601) (by decide +kernel)⟩
theorem lw_p65 : lw_okq (⟨"CopperBoardModel", "isNet", "(I)Z"⟩, 54) := ⟨⟨by decide +kernel, by decide +kernel⟩, List.mem_of_getElem? (i := 1372) (by decide +kernel), List.mem_of_getElem? (i := 1620) (by decide +kernel), List.mem_of_getElem? (i := 1621) (by decide +kernel)⟩
theorem lw_p66 : lw_okq (⟨"CopperBoardModel", "isCell", "(III)Z"⟩, 54) := ⟨⟨by decide +kernel, by decide +kernel⟩, List.mem_of_getElem? (i := 1372) (by decide +kernel), List.mem_of_getElem? (i := 1624) (by decide +kernel), List.mem_of_getElem? (i := 1625) (by decide +kernel)⟩
theorem lw_p67 : lw_okq (⟨"CopperBoardModel", "pinOn", "(I)I"⟩, 54) := ⟨⟨by decide +kernel, by decide +kernel⟩, List.mem_of_getElem? (i := 1372) (by decide +kernel), List.mem_of_getElem? (i := 1631) (by decide +kernel), List.mem_of_getElem? (i := 1632) (by decide +kernel)⟩
theorem lw_p68 : lw_okq (⟨"CopperBoardModel", "moved", "(II)I"⟩, 54) := ⟨⟨by decide +kernel, by decide +kernel⟩, List.mem_of_getElem? (i := 1372) (by decide +kernel), List.mem_of_getElem? (i := 1643) (by decide +kernel), List.mem_of_getElem? (i := 1644) (by decide +kernel)⟩
theorem lw_p69 : lw_okq (⟨"CopperBoardModel", "addWire", "(III)V"⟩, 54) := ⟨⟨by decide +kernel, by decide +kernel⟩, List.mem_of_getElem? (i := 1372) (by decide +kernel), List.mem_of_getElem? (i := 1656) (by decide +kernel), List.mem_of_getElem? (i := 1657) (by decide +kernel)⟩
theorem lw_p70 : lw_okq (⟨"CopperBoardModel", "hasWire", "(III)Z"⟩, 54) := ⟨⟨by decide +kernel, by decide +kernel⟩, List.mem_of_getElem? (i := 1372) (by decide +kernel), List.mem_of_getElem? (i := 1660) (by decide +kernel), List.mem_of_getElem? (i := 1661) (by decide +kernel)⟩
theorem lw_p71 : lw_okq (⟨"CopperBoardModel", "has", "(II)Z"⟩, 54) := ⟨⟨by decide +kernel, by decide +kernel⟩, List.mem_of_getElem? (i := 1372) (by decide +kernel), List.mem_of_getElem? (i := 1672) (by decide +kernel), List.mem_of_getElem? (i := 1673) (by decide +kernel)⟩
theorem lw_p72 : lw_okq (⟨"CopperBoardModel", "isFree", "(IIZ)Z"⟩, 54) := ⟨⟨by decide +kernel, by decide +kernel⟩, List.mem_of_getElem? (i := 1372) (by decide +kernel), List.mem_of_getElem? (i := 1680) (by decide +kernel), List.mem_of_getElem? (i := 1681) (by decide +kernel)⟩
theorem lw_p73 : lw_okq (⟨"CopperBoardModel", "counts", "(II)Z"⟩, 54) := ⟨⟨by decide +kernel, by decide +kernel⟩, List.mem_of_getElem? (i := 1372) (by decide +kernel), List.mem_of_getElem? (i := 1684) (by decide +kernel), List.mem_of_getElem? (i := 1685) (by decide +kernel)⟩
theorem lw_p74 : lw_okq (⟨"CopperBoardModel", "apart", "(II)I"⟩, 54) := ⟨⟨by decide +kernel, by decide +kernel⟩, List.mem_of_getElem? (i := 1372) (by decide +kernel), List.mem_of_getElem? (i := 1688) (by decide +kernel), List.mem_of_getElem? (i := 1689) (by decide +kernel)⟩
theorem lw_p75 : lw_okq (⟨"CopperBoardModel", "isNear", "(III)Z"⟩, 54) := ⟨⟨by decide +kernel, by decide +kernel⟩, List.mem_of_getElem? (i := 1372) (by decide +kernel), List.mem_of_getElem? (i := 1692) (by decide +kernel), List.mem_of_getElem? (i := 1693) (by decide +kernel)⟩
theorem lw_p76 : lw_okq (⟨"CopperBoardModel", "plainly", "(Z)V"⟩, 54) := ⟨⟨by decide +kernel, by decide +kernel⟩, List.mem_of_getElem? (i := 1372) (by decide +kernel), List.mem_of_getElem? (i := 1700) (by decide +kernel), List.mem_of_getElem? (i := 1701) (by decide +kernel)⟩
theorem lw_p77 : lw_okq (⟨"CopperBoardModel", "layNet", "(I)I"⟩, 54) := ⟨⟨by decide +kernel, by decide +kernel⟩, List.mem_of_getElem? (i := 1372) (by decide +kernel), List.mem_of_getElem? (i := 1704) (by decide +kernel), List.mem_of_getElem? (i := 1705) (by decide +kernel)⟩
theorem lw_p78 : lw_okq (⟨"CopperBoardModel", "takeOff", "(I)V"⟩, 54) := ⟨⟨by decide +kernel, by decide +kernel⟩, List.mem_of_getElem? (i := 1372) (by decide +kernel), List.mem_of_getElem? (i := 1708) (by decide +kernel), List.mem_of_getElem? (i := 1709) (by decide +kernel)⟩
theorem lw_p79 : lw_okq (⟨"CopperBoardModel", "paint", "(I)V"⟩, 54) := ⟨⟨by decide +kernel, by decide +kernel⟩, List.mem_of_getElem? (i := 1372) (by decide +kernel), List.mem_of_getElem? (i := 1712) (by decide +kernel), List.mem_of_getElem? (i := 1713) (by decide +kernel)⟩
def lw_privs_5 : List (MethodName × Nat) := [(⟨"CopperBoardModel", "readLayers", "(I)V"⟩, 54), (⟨"CopperBoardModel", "isNet", "(I)Z"⟩, 54), (⟨"CopperBoardModel", "isCell", "(III)Z"⟩, 54), (⟨"CopperBoardModel", "pinOn", "(I)I"⟩, 54), (⟨"CopperBoardModel", "moved", "(II)I"⟩, 54), (⟨"CopperBoardModel", "addWire", "(III)V"⟩, 54), (⟨"CopperBoardModel", "hasWire", "(III)Z"⟩, 54), (⟨"CopperBoardModel", "has", "(II)Z"⟩, 54), (⟨"CopperBoardModel", "isFree", "(IIZ)Z"⟩, 54), (⟨"CopperBoardModel", "counts", "(II)Z"⟩, 54), (⟨"CopperBoardModel", "apart", "(II)I"⟩, 54), (⟨"CopperBoardModel", "isNear", "(III)Z"⟩, 54), (⟨"CopperBoardModel", "plainly", "(Z)V"⟩, 54), (⟨"CopperBoardModel", "layNet", "(I)I"⟩, 54), (⟨"CopperBoardModel", "takeOff", "(I)V"⟩, 54), (⟨"CopperBoardModel", "paint", "(I)V"⟩, 54)]
theorem lw_r5 : ∀ q ∈ lw_privs_5, lw_okq q := List.forall_mem_cons.mpr ⟨lw_p64, List.forall_mem_cons.mpr ⟨lw_p65, List.forall_mem_cons.mpr ⟨lw_p66, List.forall_mem_cons.mpr ⟨lw_p67, List.forall_mem_cons.mpr ⟨lw_p68, List.forall_mem_cons.mpr ⟨lw_p69, List.forall_mem_cons.mpr ⟨lw_p70, List.forall_mem_cons.mpr ⟨lw_p71, List.forall_mem_cons.mpr ⟨lw_p72, List.forall_mem_cons.mpr ⟨lw_p73, List.forall_mem_cons.mpr ⟨lw_p74, List.forall_mem_cons.mpr ⟨lw_p75, List.forall_mem_cons.mpr ⟨lw_p76, List.forall_mem_cons.mpr ⟨lw_p77, List.forall_mem_cons.mpr ⟨lw_p78, List.forall_mem_cons.mpr ⟨lw_p79, fun _ h => absurd h List.not_mem_nil⟩⟩⟩⟩⟩⟩⟩⟩⟩⟩⟩⟩⟩⟩⟩⟩
theorem lw_p80 : lw_okq (⟨"CopperBoardModel", "join", "(II)V"⟩, 54) := ⟨⟨by decide +kernel, by decide +kernel⟩, List.mem_of_getElem? (i := 1372) (by decide +kernel), List.mem_of_getElem? (i := 1716) (by decide +kernel), List.mem_of_getElem? (i := 1717) (by decide +kernel)⟩
theorem lw_p81 : lw_okq (⟨"CopperBoardModel", "joins", "(II)Z"⟩, 54) := ⟨⟨by decide +kernel, by decide +kernel⟩, List.mem_of_getElem? (i := 1372) (by decide +kernel), List.mem_of_getElem? (i := 1720) (by decide +kernel), List.mem_of_getElem? (i := 1721) (by decide +kernel)⟩
theorem lw_p82 : lw_okq (⟨"CopperBoardModel", "go", "(II)I"⟩, 54) := ⟨⟨by decide +kernel, by decide +kernel⟩, List.mem_of_getElem? (i := 1372) (by decide +kernel), List.mem_of_getElem? (i := 1724) (by decide +kernel), List.mem_of_getElem? (i := 1725) (by decide +kernel)⟩
theorem lw_p83 : lw_okq (⟨"CopperBoardModel", "weigh", "(I)V"⟩, 54) := ⟨⟨by decide +kernel, by decide +kernel⟩, List.mem_of_getElem? (i := 1372) (by decide +kernel), List.mem_of_getElem? (i := 1728) (by decide +kernel), List.mem_of_getElem? (i := 1729) (by decide +kernel)⟩
theorem lw_p84 : lw_okq (⟨"CopperBoardModel", "relax", "(II)Z"⟩, 54) := ⟨⟨by decide +kernel, by decide +kernel⟩, List.mem_of_getElem? (i := 1372) (by decide +kernel), List.mem_of_getElem? (i := 1733) (by decide +kernel), List.mem_of_getElem? (i := 1734) (by decide +kernel)⟩
theorem lw_p85 : lw_okq (⟨"CopperBoardModel", "bestFrom", "(III)I"⟩, 54) := ⟨⟨by decide +kernel, by decide +kernel⟩, List.mem_of_getElem? (i := 1372) (by decide +kernel), List.mem_of_getElem? (i := 1737) (by decide +kernel), List.mem_of_getElem? (i := 1738) (by decide +kernel)⟩
theorem lw_p86 : lw_okq (⟨"CopperBoardModel", "costOf", "(IIII)I"⟩, 54) := ⟨⟨by decide +kernel, by decide +kernel⟩, List.mem_of_getElem? (i := 1372) (by decide +kernel), List.mem_of_getElem? (i := 1741) (by decide +kernel), List.mem_of_getElem? (i := 1742) (by decide +kernel)⟩
theorem lw_p87 : lw_okq (⟨"CopperBoardModel", "leads", "(IIII)Z"⟩, 54) := ⟨⟨by decide +kernel, by decide +kernel⟩, List.mem_of_getElem? (i := 1372) (by decide +kernel), List.mem_of_getElem? (i := 1745) (by decide +kernel), List.mem_of_getElem? (i := 1746) (by decide +kernel)⟩
theorem lw_p88 : lw_okq (⟨"CopperBoardModel", "addTrace", "(III)V"⟩, 54) := ⟨⟨by decide +kernel, by decide +kernel⟩, List.mem_of_getElem? (i := 1372) (by decide +kernel), List.mem_of_getElem? (i := 1749) (by decide +kernel), List.mem_of_getElem? (i := 1750) (by decide +kernel)⟩
theorem lw_p89 : lw_okq (⟨"CopperBoardModel", "putBack", "(I)V"⟩, 54) := ⟨⟨by decide +kernel, by decide +kernel⟩, List.mem_of_getElem? (i := 1372) (by decide +kernel), List.mem_of_getElem? (i := 1753) (by decide +kernel), List.mem_of_getElem? (i := 1754) (by decide +kernel)⟩
theorem lw_p90 : lw_okq (⟨"CopperBoardModel", "tried", "(I)I"⟩, 54) := ⟨⟨by decide +kernel, by decide +kernel⟩, List.mem_of_getElem? (i := 1372) (by decide +kernel), List.mem_of_getElem? (i := 1761) (by decide +kernel), List.mem_of_getElem? (i := 1762) (by decide +kernel)⟩
theorem lw_p91 : lw_okq (⟨"CopperBoardModel", "ripAll", "()V"⟩, 54) := ⟨⟨by decide +kernel, by decide +kernel⟩, List.mem_of_getElem? (i := 1372) (by decide +kernel), List.mem_of_getElem? (i := 1777) (by decide +kernel), List.mem_of_getElem? (i := 1778) (by decide +kernel)⟩
theorem lw_p92 : lw_okq (⟨"CopperBoardModel", "takeAllOff", "()V"⟩, 54) := ⟨⟨by decide +kernel, by decide +kernel⟩, List.mem_of_getElem? (i := 1372) (by decide +kernel), List.mem_of_getElem? (i := 1785) (by decide +kernel), List.mem_of_getElem? (i := 1786) (by decide +kernel)⟩
theorem lw_p93 : lw_okq (⟨"CopperBoardModel", "turn", "(I)Z"⟩, 54) := ⟨⟨by decide +kernel, by decide +kernel⟩, List.mem_of_getElem? (i := 1372) (by decide +kernel), List.mem_of_getElem? (i := 1789) (by decide +kernel), List.mem_of_getElem? (i := 1790) (by decide +kernel)⟩
theorem lw_p94 : lw_okq (⟨"CopperBoardModel", "isInside", "(I)Z"⟩, 54) := ⟨⟨by decide +kernel, by decide +kernel⟩, List.mem_of_getElem? (i := 1372) (by decide +kernel), List.mem_of_getElem? (i := 1793) (by decide +kernel), List.mem_of_getElem? (i := 1794) (by decide +kernel)⟩
theorem lw_p95 : lw_okq (⟨"CopperBoardModel", "tracesNear", "(II)I"⟩, 54) := ⟨⟨by decide +kernel, by decide +kernel⟩, List.mem_of_getElem? (i := 1372) (by decide +kernel), List.mem_of_getElem? (i := 1797) (by decide +kernel), List.mem_of_getElem? (i := 1798) (by decide +kernel)⟩
def lw_privs_6 : List (MethodName × Nat) := [(⟨"CopperBoardModel", "join", "(II)V"⟩, 54), (⟨"CopperBoardModel", "joins", "(II)Z"⟩, 54), (⟨"CopperBoardModel", "go", "(II)I"⟩, 54), (⟨"CopperBoardModel", "weigh", "(I)V"⟩, 54), (⟨"CopperBoardModel", "relax", "(II)Z"⟩, 54), (⟨"CopperBoardModel", "bestFrom", "(III)I"⟩, 54), (⟨"CopperBoardModel", "costOf", "(IIII)I"⟩, 54), (⟨"CopperBoardModel", "leads", "(IIII)Z"⟩, 54), (⟨"CopperBoardModel", "addTrace", "(III)V"⟩, 54), (⟨"CopperBoardModel", "putBack", "(I)V"⟩, 54), (⟨"CopperBoardModel", "tried", "(I)I"⟩, 54), (⟨"CopperBoardModel", "ripAll", "()V"⟩, 54), (⟨"CopperBoardModel", "takeAllOff", "()V"⟩, 54), (⟨"CopperBoardModel", "turn", "(I)Z"⟩, 54), (⟨"CopperBoardModel", "isInside", "(I)Z"⟩, 54), (⟨"CopperBoardModel", "tracesNear", "(II)I"⟩, 54)]
theorem lw_r6 : ∀ q ∈ lw_privs_6, lw_okq q := List.forall_mem_cons.mpr ⟨lw_p80, List.forall_mem_cons.mpr ⟨lw_p81, List.forall_mem_cons.mpr ⟨lw_p82, List.forall_mem_cons.mpr ⟨lw_p83, List.forall_mem_cons.mpr ⟨lw_p84, List.forall_mem_cons.mpr ⟨lw_p85, List.forall_mem_cons.mpr ⟨lw_p86, List.forall_mem_cons.mpr ⟨lw_p87, List.forall_mem_cons.mpr ⟨lw_p88, List.forall_mem_cons.mpr ⟨lw_p89, List.forall_mem_cons.mpr ⟨lw_p90, List.forall_mem_cons.mpr ⟨lw_p91, List.forall_mem_cons.mpr ⟨lw_p92, List.forall_mem_cons.mpr ⟨lw_p93, List.forall_mem_cons.mpr ⟨lw_p94, List.forall_mem_cons.mpr ⟨lw_p95, fun _ h => absurd h List.not_mem_nil⟩⟩⟩⟩⟩⟩⟩⟩⟩⟩⟩⟩⟩⟩⟩⟩
theorem lw_p96 : lw_okq (⟨"CopperBoardModel", "isTraceNear", "(III)Z"⟩, 54) := ⟨⟨by decide +kernel, by decide +kernel⟩, List.mem_of_getElem? (i := 1372) (by decide +kernel), List.mem_of_getElem? (i := 1801) (by decide +kernel), List.mem_of_getElem? (i := 1802) (by decide +kernel)⟩
theorem lw_p97 : lw_okq (⟨"CopperBoardModel", "hasTrace", "(II)Z"⟩, 54) := ⟨⟨by decide +kernel, by decide +kernel⟩, List.mem_of_getElem? (i := 1372) (by decide +kernel), List.mem_of_getElem? (i := 1805) (by decide +kernel), List.mem_of_getElem? (i := 1806) (by decide +kernel)⟩
theorem lw_p98 : lw_okq (⟨"CopperBoardModel", "crowd", "()I"⟩, 54) := ⟨⟨by decide +kernel, by decide +kernel⟩, List.mem_of_getElem? (i := 1372) (by decide +kernel), List.mem_of_getElem? (i := 1809) (by decide +kernel), List.mem_of_getElem? (i := 1810) (by decide +kernel)⟩
theorem lw_p99 : lw_okq (⟨"CopperBoardModel", "putAllBack", "()V"⟩, 54) := ⟨⟨by decide +kernel, by decide +kernel⟩, List.mem_of_getElem? (i := 1372) (by decide +kernel), List.mem_of_getElem? (i := 1813) (by decide +kernel), List.mem_of_getElem? (i := 1814) (by decide +kernel)⟩
theorem lw_p100 : lw_okq (⟨"CopperBoardModel", "reach", "(I)V"⟩, 54) := ⟨⟨by decide +kernel, by decide +kernel⟩, List.mem_of_getElem? (i := 1372) (by decide +kernel), List.mem_of_getElem? (i := 1821) (by decide +kernel), List.mem_of_getElem? (i := 1822) (by decide +kernel)⟩
theorem lw_p101 : lw_okq (⟨"CopperBoardModel", "isBeside", "(I)Z"⟩, 54) := ⟨⟨by decide +kernel, by decide +kernel⟩, List.mem_of_getElem? (i := 1372) (by decide +kernel), List.mem_of_getElem? (i := 1825) (by decide +kernel), List.mem_of_getElem? (i := 1826) (by decide +kernel)⟩
theorem lw_p102 : lw_okq (⟨"CopperBoardModel", "cutOf", "(II)I"⟩, 54) := ⟨⟨by decide +kernel, by decide +kernel⟩, List.mem_of_getElem? (i := 1372) (by decide +kernel), List.mem_of_getElem? (i := 1829) (by decide +kernel), List.mem_of_getElem? (i := 1830) (by decide +kernel)⟩
theorem lw_p103 : lw_okq (⟨"CopperBoardModel", "isWall", "(I)Z"⟩, 54) := ⟨⟨by decide +kernel, by decide +kernel⟩, List.mem_of_getElem? (i := 1372) (by decide +kernel), List.mem_of_getElem? (i := 1833) (by decide +kernel), List.mem_of_getElem? (i := 1834) (by decide +kernel)⟩
theorem lw_p104 : lw_okq (⟨"CopperBoardModel", "findAll", "(II)Z"⟩, 54) := ⟨⟨by decide +kernel, by decide +kernel⟩, List.mem_of_getElem? (i := 1372) (by decide +kernel), List.mem_of_getElem? (i := 1849) (by decide +kernel), List.mem_of_getElem? (i := 1850) (by decide +kernel)⟩
theorem lw_p105 : lw_okq (⟨"CopperBoardModel", "goOn", "(IIII)Z"⟩, 54) := ⟨⟨by decide +kernel, by decide +kernel⟩, List.mem_of_getElem? (i := 1372) (by decide +kernel), List.mem_of_getElem? (i := 1854) (by decide +kernel), List.mem_of_getElem? (i := 1855) (by decide +kernel)⟩
theorem lw_p106 : lw_okq (⟨"CopperBoardModel", "isPlainFrom", "(III)Z"⟩, 54) := ⟨⟨by decide +kernel, by decide +kernel⟩, List.mem_of_getElem? (i := 1372) (by decide +kernel), List.mem_of_getElem? (i := 1858) (by decide +kernel), List.mem_of_getElem? (i := 1859) (by decide +kernel)⟩
theorem lw_p107 : lw_okq (⟨"CopperBoardModel", "lengthOf", "(I)I"⟩, 54) := ⟨⟨by decide +kernel, by decide +kernel⟩, List.mem_of_getElem? (i := 1372) (by decide +kernel), List.mem_of_getElem? (i := 1866) (by decide +kernel), List.mem_of_getElem? (i := 1867) (by decide +kernel)⟩
theorem lw_p108 : lw_okq (⟨"CopperBoardModel", "isStretched", "(I)Z"⟩, 54) := ⟨⟨by decide +kernel, by decide +kernel⟩, List.mem_of_getElem? (i := 1372) (by decide +kernel), List.mem_of_getElem? (i := 1874) (by decide +kernel), List.mem_of_getElem? (i := 1875) (by decide +kernel)⟩
theorem lw_p109 : lw_okq (⟨"CopperBoardModel", "stretched", "(II)I"⟩, 54) := ⟨⟨by decide +kernel, by decide +kernel⟩, List.mem_of_getElem? (i := 1372) (by decide +kernel), List.mem_of_getElem? (i := 1878) (by decide +kernel), List.mem_of_getElem? (i := 1879) (by decide +kernel)⟩
theorem lw_p110 : lw_okq (⟨"CopperBoardModel", "wayFrom", "(II)I"⟩, 54) := ⟨⟨by decide +kernel, by decide +kernel⟩, List.mem_of_getElem? (i := 1372) (by decide +kernel), List.mem_of_getElem? (i := 1882) (by decide +kernel), List.mem_of_getElem? (i := 1883) (by decide +kernel)⟩
theorem lw_p111 : lw_okq (⟨"CopperBoardModel", "bulge", "(IIII)Z"⟩, 54) := ⟨⟨by decide +kernel, by decide +kernel⟩, List.mem_of_getElem? (i := 1372) (by decide +kernel), List.mem_of_getElem? (i := 1886) (by decide +kernel), List.mem_of_getElem? (i := 1887) (by decide +kernel)⟩
def lw_privs_7 : List (MethodName × Nat) := [(⟨"CopperBoardModel", "isTraceNear", "(III)Z"⟩, 54), (⟨"CopperBoardModel", "hasTrace", "(II)Z"⟩, 54), (⟨"CopperBoardModel", "crowd", "()I"⟩, 54), (⟨"CopperBoardModel", "putAllBack", "()V"⟩, 54), (⟨"CopperBoardModel", "reach", "(I)V"⟩, 54), (⟨"CopperBoardModel", "isBeside", "(I)Z"⟩, 54), (⟨"CopperBoardModel", "cutOf", "(II)I"⟩, 54), (⟨"CopperBoardModel", "isWall", "(I)Z"⟩, 54), (⟨"CopperBoardModel", "findAll", "(II)Z"⟩, 54), (⟨"CopperBoardModel", "goOn", "(IIII)Z"⟩, 54), (⟨"CopperBoardModel", "isPlainFrom", "(III)Z"⟩, 54), (⟨"CopperBoardModel", "lengthOf", "(I)I"⟩, 54), (⟨"CopperBoardModel", "isStretched", "(I)Z"⟩, 54), (⟨"CopperBoardModel", "stretched", "(II)I"⟩, 54), (⟨"CopperBoardModel", "wayFrom", "(II)I"⟩, 54), (⟨"CopperBoardModel", "bulge", "(IIII)Z"⟩, 54)]
theorem lw_r7 : ∀ q ∈ lw_privs_7, lw_okq q := List.forall_mem_cons.mpr ⟨lw_p96, List.forall_mem_cons.mpr ⟨lw_p97, List.forall_mem_cons.mpr ⟨lw_p98, List.forall_mem_cons.mpr ⟨lw_p99, List.forall_mem_cons.mpr ⟨lw_p100, List.forall_mem_cons.mpr ⟨lw_p101, List.forall_mem_cons.mpr ⟨lw_p102, List.forall_mem_cons.mpr ⟨lw_p103, List.forall_mem_cons.mpr ⟨lw_p104, List.forall_mem_cons.mpr ⟨lw_p105, List.forall_mem_cons.mpr ⟨lw_p106, List.forall_mem_cons.mpr ⟨lw_p107, List.forall_mem_cons.mpr ⟨lw_p108, List.forall_mem_cons.mpr ⟨lw_p109, List.forall_mem_cons.mpr ⟨lw_p110, List.forall_mem_cons.mpr ⟨lw_p111, fun _ h => absurd h List.not_mem_nil⟩⟩⟩⟩⟩⟩⟩⟩⟩⟩⟩⟩⟩⟩⟩⟩
theorem lw_p112 : lw_okq (⟨"CopperBoardModel", "isRoom", "(II)Z"⟩, 54) := ⟨⟨by decide +kernel, by decide +kernel⟩, List.mem_of_getElem? (i := 1372) (by decide +kernel), List.mem_of_getElem? (i := 1890) (by decide +kernel), List.mem_of_getElem? (i := 1891) (by decide +kernel)⟩
theorem lw_p113 : lw_okq (⟨"CopperBoardModel", "spread", "(II)V"⟩, 54) := ⟨⟨by decide +kernel, by decide +kernel⟩, List.mem_of_getElem? (i := 1372) (by decide +kernel), List.mem_of_getElem? (i := 1906) (by decide +kernel), List.mem_of_getElem? (i := 1907) (by decide +kernel)⟩
theorem lw_p114 : lw_okq (⟨"CopperBoardModel", "parts", "(IIIZ)I"⟩, 54) := ⟨⟨by decide +kernel, by decide +kernel⟩, List.mem_of_getElem? (i := 1372) (by decide +kernel), List.mem_of_getElem? (i := 1910) (by decide +kernel), List.mem_of_getElem? (i := 1911) (by decide +kernel)⟩
theorem lw_p115 : lw_okq (⟨"CopperBoardModel", "mingle", "(II)Z"⟩, 54) := ⟨⟨by decide +kernel, by decide +kernel⟩, List.mem_of_getElem? (i := 1372) (by decide +kernel), List.mem_of_getElem? (i := 1914) (by decide +kernel), List.mem_of_getElem? (i := 1915) (by decide +kernel)⟩
theorem lw_p116 : lw_okq (⟨"CopperBoardModel", "findWander", "(II)V"⟩, 54) := ⟨⟨by decide +kernel, by decide +kernel⟩, List.mem_of_getElem? (i := 1372) (by decide +kernel), List.mem_of_getElem? (i := 1930) (by decide +kernel), List.mem_of_getElem? (i := 1931) (by decide +kernel)⟩
theorem lw_p117 : lw_okq (⟨"CopperBoardModel", "strike", "(IIIII)V"⟩, 54) := ⟨⟨by decide +kernel, by decide +kernel⟩, List.mem_of_getElem? (i := 1372) (by decide +kernel), List.mem_of_getElem? (i := 1934) (by decide +kernel), List.mem_of_getElem? (i := 1935) (by decide +kernel)⟩
theorem lw_p118 : lw_okq (⟨"CopperBoardModel", "isFirstThere", "(II)Z"⟩, 54) := ⟨⟨by decide +kernel, by decide +kernel⟩, List.mem_of_getElem? (i := 1372) (by decide +kernel), List.mem_of_getElem? (i := 1938) (by decide +kernel), List.mem_of_getElem? (i := 1939) (by decide +kernel)⟩
theorem lw_p119 : lw_okq (⟨"CopperBoardModel", "movePin", "(III)V"⟩, 54) := ⟨⟨by decide +kernel, by decide +kernel⟩, List.mem_of_getElem? (i := 1372) (by decide +kernel), List.mem_of_getElem? (i := 1950) (by decide +kernel), List.mem_of_getElem? (i := 1951) (by decide +kernel)⟩
theorem lw_p120 : lw_okq (⟨"CopperBoardModel", "layWith", "(II)Z"⟩, 54) := ⟨⟨by decide +kernel, by decide +kernel⟩, List.mem_of_getElem? (i := 1372) (by decide +kernel), List.mem_of_getElem? (i := 1954) (by decide +kernel), List.mem_of_getElem? (i := 1955) (by decide +kernel)⟩
theorem lw_p121 : lw_okq (⟨"CopperBoardModel", "ripSome", "(I)V"⟩, 54) := ⟨⟨by decide +kernel, by decide +kernel⟩, List.mem_of_getElem? (i := 1372) (by decide +kernel), List.mem_of_getElem? (i := 1958) (by decide +kernel), List.mem_of_getElem? (i := 1959) (by decide +kernel)⟩
theorem lw_p122 : lw_okq (⟨"CopperBoardModel", "uniteAll", "()V"⟩, 54) := ⟨⟨by decide +kernel, by decide +kernel⟩, List.mem_of_getElem? (i := 1372) (by decide +kernel), List.mem_of_getElem? (i := 1966) (by decide +kernel), List.mem_of_getElem? (i := 1967) (by decide +kernel)⟩
theorem lw_p123 : lw_okq (⟨"CopperBoardModel", "unite", "(II)V"⟩, 54) := ⟨⟨by decide +kernel, by decide +kernel⟩, List.mem_of_getElem? (i := 1372) (by decide +kernel), List.mem_of_getElem? (i := 1970) (by decide +kernel), List.mem_of_getElem? (i := 1971) (by decide +kernel)⟩
theorem lw_p124 : lw_okq (⟨"CopperBoardModel", "find", "(I)I"⟩, 54) := ⟨⟨by decide +kernel, by decide +kernel⟩, List.mem_of_getElem? (i := 1372) (by decide +kernel), List.mem_of_getElem? (i := 1974) (by decide +kernel), List.mem_of_getElem? (i := 1975) (by decide +kernel)⟩
theorem lw_p125 : lw_okq (⟨"CopperBoardModel", "areShort", "(II)Z"⟩, 54) := ⟨⟨by decide +kernel, by decide +kernel⟩, List.mem_of_getElem? (i := 1372) (by decide +kernel), List.mem_of_getElem? (i := 1978) (by decide +kernel), List.mem_of_getElem? (i := 1979) (by decide +kernel)⟩
theorem lw_p126 : lw_okq (⟨"CopperBoardModel", "isAlone", "(II)Z"⟩, 54) := ⟨⟨by decide +kernel, by decide +kernel⟩, List.mem_of_getElem? (i := 1372) (by decide +kernel), List.mem_of_getElem? (i := 1986) (by decide +kernel), List.mem_of_getElem? (i := 1987) (by decide +kernel)⟩
theorem lw_p127 : lw_okq (⟨"CopperBoardModel", "delayOf", "(I)I"⟩, 54) := ⟨⟨by decide +kernel, by decide +kernel⟩, List.mem_of_getElem? (i := 1372) (by decide +kernel), List.mem_of_getElem? (i := 1998) (by decide +kernel), List.mem_of_getElem? (i := 1999) (by decide +kernel)⟩
def lw_privs_8 : List (MethodName × Nat) := [(⟨"CopperBoardModel", "isRoom", "(II)Z"⟩, 54), (⟨"CopperBoardModel", "spread", "(II)V"⟩, 54), (⟨"CopperBoardModel", "parts", "(IIIZ)I"⟩, 54), (⟨"CopperBoardModel", "mingle", "(II)Z"⟩, 54), (⟨"CopperBoardModel", "findWander", "(II)V"⟩, 54), (⟨"CopperBoardModel", "strike", "(IIIII)V"⟩, 54), (⟨"CopperBoardModel", "isFirstThere", "(II)Z"⟩, 54), (⟨"CopperBoardModel", "movePin", "(III)V"⟩, 54), (⟨"CopperBoardModel", "layWith", "(II)Z"⟩, 54), (⟨"CopperBoardModel", "ripSome", "(I)V"⟩, 54), (⟨"CopperBoardModel", "uniteAll", "()V"⟩, 54), (⟨"CopperBoardModel", "unite", "(II)V"⟩, 54), (⟨"CopperBoardModel", "find", "(I)I"⟩, 54), (⟨"CopperBoardModel", "areShort", "(II)Z"⟩, 54), (⟨"CopperBoardModel", "isAlone", "(II)Z"⟩, 54), (⟨"CopperBoardModel", "delayOf", "(I)I"⟩, 54)]
theorem lw_r8 : ∀ q ∈ lw_privs_8, lw_okq q := List.forall_mem_cons.mpr ⟨lw_p112, List.forall_mem_cons.mpr ⟨lw_p113, List.forall_mem_cons.mpr ⟨lw_p114, List.forall_mem_cons.mpr ⟨lw_p115, List.forall_mem_cons.mpr ⟨lw_p116, List.forall_mem_cons.mpr ⟨lw_p117, List.forall_mem_cons.mpr ⟨lw_p118, List.forall_mem_cons.mpr ⟨lw_p119, List.forall_mem_cons.mpr ⟨lw_p120, List.forall_mem_cons.mpr ⟨lw_p121, List.forall_mem_cons.mpr ⟨lw_p122, List.forall_mem_cons.mpr ⟨lw_p123, List.forall_mem_cons.mpr ⟨lw_p124, List.forall_mem_cons.mpr ⟨lw_p125, List.forall_mem_cons.mpr ⟨lw_p126, List.forall_mem_cons.mpr ⟨lw_p127, fun _ h => absurd h List.not_mem_nil⟩⟩⟩⟩⟩⟩⟩⟩⟩⟩⟩⟩⟩⟩⟩⟩
theorem lw_p128 : lw_okq (⟨"CopperBoardModel", "delayed", "(II)I"⟩, 54) := ⟨⟨by decide +kernel, by decide +kernel⟩, List.mem_of_getElem? (i := 1372) (by decide +kernel), List.mem_of_getElem? (i := 2002) (by decide +kernel), List.mem_of_getElem? (i := 2003) (by decide +kernel)⟩
theorem lw_p129 : lw_okq (⟨"CopperBoardModel", "byAll", "(II)I"⟩, 54) := ⟨⟨by decide +kernel, by decide +kernel⟩, List.mem_of_getElem? (i := 1372) (by decide +kernel), List.mem_of_getElem? (i := 2010) (by decide +kernel), List.mem_of_getElem? (i := 2011) (by decide +kernel)⟩
theorem lw_p130 : lw_okq (⟨"CopperBoardModel", "isBy", "(II)Z"⟩, 54) := ⟨⟨by decide +kernel, by decide +kernel⟩, List.mem_of_getElem? (i := 1372) (by decide +kernel), List.mem_of_getElem? (i := 2014) (by decide +kernel), List.mem_of_getElem? (i := 2015) (by decide +kernel)⟩
theorem lw_p131 : lw_okq (⟨"CopperBoardModel", "longest", "(II)I"⟩, 54) := ⟨⟨by decide +kernel, by decide +kernel⟩, List.mem_of_getElem? (i := 1372) (by decide +kernel), List.mem_of_getElem? (i := 2018) (by decide +kernel), List.mem_of_getElem? (i := 2019) (by decide +kernel)⟩
theorem lw_p132 : lw_okq (⟨"CopperBoardModel", "away", "(II)I"⟩, 54) := ⟨⟨by decide +kernel, by decide +kernel⟩, List.mem_of_getElem? (i := 1372) (by decide +kernel), List.mem_of_getElem? (i := 2022) (by decide +kernel), List.mem_of_getElem? (i := 2023) (by decide +kernel)⟩
theorem lw_p133 : lw_okq (⟨"CopperBoardModel", "keepNow", "()V"⟩, 54) := ⟨⟨by decide +kernel, by decide +kernel⟩, List.mem_of_getElem? (i := 1372) (by decide +kernel), List.mem_of_getElem? (i := 2030) (by decide +kernel), List.mem_of_getElem? (i := 2031) (by decide +kernel)⟩
theorem lw_p134 : lw_okq (⟨"CopperBoardModel", "besideOrder", "(I)I"⟩, 54) := ⟨⟨by decide +kernel, by decide +kernel⟩, List.mem_of_getElem? (i := 1372) (by decide +kernel), List.mem_of_getElem? (i := 2034) (by decide +kernel), List.mem_of_getElem? (i := 2035) (by decide +kernel)⟩
theorem lw_p135 : lw_okq (⟨"CopperBoardModel", "lengths", "(Z)I"⟩, 54) := ⟨⟨by decide +kernel, by decide +kernel⟩, List.mem_of_getElem? (i := 1372) (by decide +kernel), List.mem_of_getElem? (i := 2039) (by decide +kernel), List.mem_of_getElem? (i := 2040) (by decide +kernel)⟩
theorem lw_p136 : lw_okq (⟨"CopperBoardModel", "besidePress", "(III)I"⟩, 54) := ⟨⟨by decide +kernel, by decide +kernel⟩, List.mem_of_getElem? (i := 1372) (by decide +kernel), List.mem_of_getElem? (i := 2043) (by decide +kernel), List.mem_of_getElem? (i := 2044) (by decide +kernel)⟩
theorem lw_p137 : lw_okq (⟨"CopperBoardModel", "bringNow", "()V"⟩, 54) := ⟨⟨by decide +kernel, by decide +kernel⟩, List.mem_of_getElem? (i := 1372) (by decide +kernel), List.mem_of_getElem? (i := 2048) (by decide +kernel), List.mem_of_getElem? (i := 2049) (by decide +kernel)⟩
theorem lw_p138 : lw_okq (⟨"CopperBoardModel", "wasThere", "(II)Z"⟩, 54) := ⟨⟨by decide +kernel, by decide +kernel⟩, List.mem_of_getElem? (i := 1372) (by decide +kernel), List.mem_of_getElem? (i := 2060) (by decide +kernel), List.mem_of_getElem? (i := 2061) (by decide +kernel)⟩
def lw_privs_9 : List (MethodName × Nat) := [(⟨"CopperBoardModel", "delayed", "(II)I"⟩, 54), (⟨"CopperBoardModel", "byAll", "(II)I"⟩, 54), (⟨"CopperBoardModel", "isBy", "(II)Z"⟩, 54), (⟨"CopperBoardModel", "longest", "(II)I"⟩, 54), (⟨"CopperBoardModel", "away", "(II)I"⟩, 54), (⟨"CopperBoardModel", "keepNow", "()V"⟩, 54), (⟨"CopperBoardModel", "besideOrder", "(I)I"⟩, 54), (⟨"CopperBoardModel", "lengths", "(Z)I"⟩, 54), (⟨"CopperBoardModel", "besidePress", "(III)I"⟩, 54), (⟨"CopperBoardModel", "bringNow", "()V"⟩, 54), (⟨"CopperBoardModel", "wasThere", "(II)Z"⟩, 54)]
theorem lw_r9 : ∀ q ∈ lw_privs_9, lw_okq q := List.forall_mem_cons.mpr ⟨lw_p128, List.forall_mem_cons.mpr ⟨lw_p129, List.forall_mem_cons.mpr ⟨lw_p130, List.forall_mem_cons.mpr ⟨lw_p131, List.forall_mem_cons.mpr ⟨lw_p132, List.forall_mem_cons.mpr ⟨lw_p133, List.forall_mem_cons.mpr ⟨lw_p134, List.forall_mem_cons.mpr ⟨lw_p135, List.forall_mem_cons.mpr ⟨lw_p136, List.forall_mem_cons.mpr ⟨lw_p137, List.forall_mem_cons.mpr ⟨lw_p138, fun _ h => absurd h List.not_mem_nil⟩⟩⟩⟩⟩⟩⟩⟩⟩⟩⟩
def lw_privs : List (MethodName × Nat) := lw_privs_1 ++ (lw_privs_2 ++ (lw_privs_3 ++ (lw_privs_4 ++ (lw_privs_5 ++ (lw_privs_6 ++ (lw_privs_7 ++ (lw_privs_8 ++ (lw_privs_9))))))))
def lw_tbl : List Cond := k2_sels lw_privs ++ tables_1
theorem lw_privs_ok : ∀ q ∈ lw_privs, lw_okq q := by
  show ∀ q ∈ lw_privs_1 ++ (lw_privs_2 ++ (lw_privs_3 ++ (lw_privs_4 ++ (lw_privs_5 ++ (lw_privs_6 ++ (lw_privs_7 ++ (lw_privs_8 ++ (lw_privs_9)))))))), lw_okq q
  exact List.forall_mem_append.mpr ⟨lw_r1, List.forall_mem_append.mpr ⟨lw_r2, List.forall_mem_append.mpr ⟨lw_r3, List.forall_mem_append.mpr ⟨lw_r4, List.forall_mem_append.mpr ⟨lw_r5, List.forall_mem_append.mpr ⟨lw_r6, List.forall_mem_append.mpr ⟨lw_r7, List.forall_mem_append.mpr ⟨lw_r8, lw_r9⟩⟩⟩⟩⟩⟩⟩⟩
-- ===== end of PART A; then your names; then what follows =====
end
section
def RX0 : String := "CopperBoard$Checks"
def TX0 : u_T := fun k => match k with
  | 0 => ("CopperBoard$Checks", "grid", "LCopperBoard$Grid;", true)
  | 1 => ("CopperBoard$Checks", "nets", "LCopperBoard$Nets;", true)
  | 2 => ("CopperBoard$Checks", "slowness", "[I", true)
  | 3 => ("CopperBoard$Checks", "shorts", "I", false)
  | 4 => ("CopperBoard$Checks", "opens", "I", false)
  | 5 => ("CopperBoard$Checks", "label", "[I", true)
  | 6 => ("CopperBoard$Checks", "queue", "[I", true)
  | 7 => ("CopperBoard$Checks", "netsIn", "[I", true)
  | _ => ("CopperBoard$Checks", "labels", "I", false)
def tyX0 : Nat → FieldType := fun k => match k with
  | 0 => .object "CopperBoard$Grid"
  | 1 => .object "CopperBoard$Nets"
  | 2 => .array .int
  | 3 => .int
  | 4 => .int
  | 5 => .array .int
  | 6 => .array .int
  | 7 => .array .int
  | _ => .int
theorem nmX0 : ∀ a, a < 9 → ∀ b, b < 9 → a ≠ b → (TX0 a).2.1 ≠ (TX0 b).2.1 := by decide +kernel
theorem tyX0_ok : ∀ k, k < 9 → parseFieldDescriptor (TX0 k).2.2.1 = some (tyX0 k) := by decide +kernel
abbrev cX0_init : ByteArray := prog_2_method_1_code
def yX0_init : MethodName := ⟨RX0, "<init>", "(LCopperBoard$Grid;LCopperBoard$Nets;)V"⟩
abbrev cX0_shiftVias : ByteArray := prog_2_method_2_code
def yX0_shiftVias : MethodName := ⟨RX0, "shiftVias", "(II)V"⟩
abbrev cX0_judgeVia : ByteArray := prog_2_method_3_code
def yX0_judgeVia : MethodName := ⟨RX0, "judgeVia", "(II)V"⟩
abbrev cX0_worstShift : ByteArray := prog_2_method_4_code
def yX0_worstShift : MethodName := ⟨RX0, "worstShift", "(II)I"⟩
abbrev cX0_joinAll : ByteArray := prog_2_method_5_code
def yX0_joinAll : MethodName := ⟨RX0, "joinAll", "()V"⟩
abbrev cX0_joinFrom : ByteArray := prog_2_method_6_code
def yX0_joinFrom : MethodName := ⟨RX0, "joinFrom", "(I)I"⟩
abbrev cX0_allMovesAt : ByteArray := prog_2_method_7_code
def yX0_allMovesAt : MethodName := ⟨RX0, "allMovesAt", "(I)I"⟩
abbrev cX0_joinedPairs : ByteArray := prog_2_method_8_code
def yX0_joinedPairs : MethodName := ⟨RX0, "joinedPairs", "()I"⟩
abbrev cX0_areJoined : ByteArray := prog_2_method_9_code
def yX0_areJoined : MethodName := ⟨RX0, "areJoined", "(I)Z"⟩
abbrev cX0_openParts : ByteArray := prog_2_method_10_code
def yX0_openParts : MethodName := ⟨RX0, "openParts", "()I"⟩
abbrev cX0_isNewPart : ByteArray := prog_2_method_11_code
def yX0_isNewPart : MethodName := ⟨RX0, "isNewPart", "(II)Z"⟩
abbrev cX0_reachable : ByteArray := prog_2_method_12_code
def yX0_reachable : MethodName := ⟨RX0, "reachable", "(I)I"⟩
abbrev cX0_copperBeside : ByteArray := prog_2_method_13_code
def yX0_copperBeside : MethodName := ⟨RX0, "copperBeside", "(I)I"⟩
abbrev cX0_delayOf : ByteArray := prog_2_method_14_code
def yX0_delayOf : MethodName := ⟨RX0, "delayOf", "(I)I"⟩
abbrev cX0_isBeside : ByteArray := prog_2_method_15_code
def yX0_isBeside : MethodName := ⟨RX0, "isBeside", "(III)Z"⟩
abbrev cX0_cellsBeside : ByteArray := prog_2_method_16_code
def yX0_cellsBeside : MethodName := ⟨RX0, "cellsBeside", "(II)I"⟩
abbrev cX0_turnsAway : ByteArray := prog_2_method_17_code
def yX0_turnsAway : MethodName := ⟨RX0, "turnsAway", "(II)I"⟩
def RX1 : String := "CopperBoard$Chooser"
def TX1 : u_T := fun k => match k with
  | 0 => ("CopperBoard$Chooser", "grid", "LCopperBoard$Grid;", true)
  | 1 => ("CopperBoard$Chooser", "nets", "LCopperBoard$Nets;", true)
  | 2 => ("CopperBoard$Chooser", "room", "LCopperBoard$Room;", true)
  | _ => ("CopperBoard$Chooser", "router", "LCopperBoard$Router;", true)
def tyX1 : Nat → FieldType := fun k => match k with
  | 0 => .object "CopperBoard$Grid"
  | 1 => .object "CopperBoard$Nets"
  | 2 => .object "CopperBoard$Room"
  | _ => .object "CopperBoard$Router"
theorem nmX1 : ∀ a, a < 4 → ∀ b, b < 4 → a ≠ b → (TX1 a).2.1 ≠ (TX1 b).2.1 := by decide +kernel
theorem tyX1_ok : ∀ k, k < 4 → parseFieldDescriptor (TX1 k).2.2.1 = some (tyX1 k) := by decide +kernel
abbrev cX1_init : ByteArray := prog_3_method_1_code
def yX1_init : MethodName := ⟨RX1, "<init>", "(LCopperBoard$Grid;LCopperBoard$Nets;LCopperBoard$Room;LCopperBoard$Router;)V"⟩
abbrev cX1_cutOf : ByteArray := prog_3_method_2_code
def yX1_cutOf : MethodName := ⟨RX1, "cutOf", "(II)I"⟩
abbrev cX1_isWall : ByteArray := prog_3_method_3_code
def yX1_isWall : MethodName := ⟨RX1, "isWall", "(I)Z"⟩
abbrev cX1_setOf : ByteArray := prog_3_method_4_code
def yX1_setOf : MethodName := ⟨RX1, "setOf", "(I)I"⟩
abbrev cX1_othersWithTraces : ByteArray := prog_3_method_5_code
def yX1_othersWithTraces : MethodName := ⟨RX1, "othersWithTraces", "(I)I"⟩
abbrev cX1_fewestBars : ByteArray := prog_3_method_6_code
def yX1_fewestBars : MethodName := ⟨RX1, "fewestBars", "(II)I"⟩
abbrev cX1_whyVias : ByteArray := prog_3_method_7_code
def yX1_whyVias : MethodName := ⟨RX1, "whyVias", "(I)I"⟩
abbrev cX1_fewestByRows : ByteArray := prog_3_method_8_code
def yX1_fewestByRows : MethodName := ⟨RX1, "fewestByRows", "(I)I"⟩
abbrev cX1_layFlat : ByteArray := prog_3_method_9_code
def yX1_layFlat : MethodName := ⟨RX1, "layFlat", "(II)Z"⟩
abbrev cX1_moveLate : ByteArray := prog_3_method_10_code
def yX1_moveLate : MethodName := ⟨RX1, "moveLate", "(III)I"⟩
abbrev cX1_layWith : ByteArray := prog_3_method_11_code
def yX1_layWith : MethodName := ⟨RX1, "layWith", "(II)Z"⟩
def RX2 : String := "CopperBoard$Grid"
def TX2 : u_T := fun k => match k with
  | 0 => ("CopperBoard$Grid", "wide", "I", true)
  | 1 => ("CopperBoard$Grid", "deep", "I", true)
  | 2 => ("CopperBoard$Grid", "layers", "I", true)
  | 3 => ("CopperBoard$Grid", "floor", "I", true)
  | 4 => ("CopperBoard$Grid", "cells", "I", true)
  | 5 => ("CopperBoard$Grid", "next", "[I", true)
  | 6 => ("CopperBoard$Grid", "xOf", "[I", true)
  | 7 => ("CopperBoard$Grid", "yOf", "[I", true)
  | _ => ("CopperBoard$Grid", "layerOf", "[I", true)
def tyX2 : Nat → FieldType := fun k => match k with
  | 0 => .int
  | 1 => .int
  | 2 => .int
  | 3 => .int
  | 4 => .int
  | 5 => .array .int
  | 6 => .array .int
  | 7 => .array .int
  | _ => .array .int
theorem nmX2 : ∀ a, a < 9 → ∀ b, b < 9 → a ≠ b → (TX2 a).2.1 ≠ (TX2 b).2.1 := by decide +kernel
theorem tyX2_ok : ∀ k, k < 9 → parseFieldDescriptor (TX2 k).2.2.1 = some (tyX2 k) := by decide +kernel
abbrev cX2_init : ByteArray := prog_4_method_1_code
def yX2_init : MethodName := ⟨RX2, "<init>", "(III)V"⟩
abbrev cX2_cellAt : ByteArray := prog_4_method_2_code
def yX2_cellAt : MethodName := ⟨RX2, "cellAt", "(III)I"⟩
abbrev cX2_allLayers : ByteArray := prog_4_method_3_code
def yX2_allLayers : MethodName := ⟨RX2, "allLayers", "()I"⟩
def RX3 : String := "CopperBoard$Nets"
def TX3 : u_T := fun k => match k with
  | 0 => ("CopperBoard$Nets", "grid", "LCopperBoard$Grid;", true)
  | 1 => ("CopperBoard$Nets", "settings", "[I", true)
  | 2 => ("CopperBoard$Nets", "sortOf", "[I", true)
  | 3 => ("CopperBoard$Nets", "ranks", "[I", true)
  | 4 => ("CopperBoard$Nets", "pinCounts", "[I", true)
  | 5 => ("CopperBoard$Nets", "pinCells", "[I", true)
  | 6 => ("CopperBoard$Nets", "closed", "[I", true)
  | 7 => ("CopperBoard$Nets", "solid", "[I", true)
  | 8 => ("CopperBoard$Nets", "traced", "[I", true)
  | 9 => ("CopperBoard$Nets", "wires", "[I", true)
  | 10 => ("CopperBoard$Nets", "traces", "[I", true)
  | 11 => ("CopperBoard$Nets", "savedTraced", "[I", true)
  | 12 => ("CopperBoard$Nets", "savedTraces", "[I", true)
  | 13 => ("CopperBoard$Nets", "sorts", "I", false)
  | _ => ("CopperBoard$Nets", "amount", "I", false)
def tyX3 : Nat → FieldType := fun k => match k with
  | 0 => .object "CopperBoard$Grid"
  | 1 => .array .int
  | 2 => .array .int
  | 3 => .array .int
  | 4 => .array .int
  | 5 => .array .int
  | 6 => .array .int
  | 7 => .array .int
  | 8 => .array .int
  | 9 => .array .int
  | 10 => .array .int
  | 11 => .array .int
  | 12 => .array .int
  | 13 => .int
  | _ => .int
theorem nmX3 : ∀ a, a < 15 → ∀ b, b < 15 → a ≠ b → (TX3 a).2.1 ≠ (TX3 b).2.1 := by decide +kernel
theorem tyX3_ok : ∀ k, k < 15 → parseFieldDescriptor (TX3 k).2.2.1 = some (tyX3 k) := by decide +kernel
abbrev cX3_init : ByteArray := prog_5_method_1_code
def yX3_init : MethodName := ⟨RX3, "<init>", "(LCopperBoard$Grid;)V"⟩
abbrev cX3_addSort : ByteArray := prog_5_method_2_code
def yX3_addSort : MethodName := ⟨RX3, "addSort", "([I)I"⟩
abbrev cX3_addNet : ByteArray := prog_5_method_3_code
def yX3_addNet : MethodName := ⟨RX3, "addNet", "(I)I"⟩
abbrev cX3_setting : ByteArray := prog_5_method_4_code
def yX3_setting : MethodName := ⟨RX3, "setting", "(II)I"⟩
abbrev cX3_hasPin : ByteArray := prog_5_method_5_code
def yX3_hasPin : MethodName := ⟨RX3, "hasPin", "(I)Z"⟩
abbrev cX3_pinCell : ByteArray := prog_5_method_6_code
def yX3_pinCell : MethodName := ⟨RX3, "pinCell", "(II)I"⟩
abbrev cX3_addPin : ByteArray := prog_5_method_7_code
def yX3_addPin : MethodName := ⟨RX3, "addPin", "(II)I"⟩
abbrev cX3_movePin : ByteArray := prog_5_method_8_code
def yX3_movePin : MethodName := ⟨RX3, "movePin", "(III)V"⟩
abbrev cX3_close : ByteArray := prog_5_method_9_code
def yX3_close : MethodName := ⟨RX3, "close", "(IIIII)V"⟩
abbrev cX3_addWire : ByteArray := prog_5_method_10_code
def yX3_addWire : MethodName := ⟨RX3, "addWire", "(IIII)V"⟩
abbrev cX3_addTrace : ByteArray := prog_5_method_11_code
def yX3_addTrace : MethodName := ⟨RX3, "addTrace", "(III)I"⟩
abbrev cX3_join : ByteArray := prog_5_method_12_code
def yX3_join : MethodName := ⟨RX3, "join", "([I[IIII)I"⟩
abbrev cX3_dropTrace : ByteArray := prog_5_method_13_code
def yX3_dropTrace : MethodName := ⟨RX3, "dropTrace", "(III)V"⟩
abbrev cX3_removeTraces : ByteArray := prog_5_method_14_code
def yX3_removeTraces : MethodName := ⟨RX3, "removeTraces", "(I)V"⟩
abbrev cX3_removeAllTraces : ByteArray := prog_5_method_15_code
def yX3_removeAllTraces : MethodName := ⟨RX3, "removeAllTraces", "()V"⟩
abbrev cX3_removeWires : ByteArray := prog_5_method_16_code
def yX3_removeWires : MethodName := ⟨RX3, "removeWires", "(I)V"⟩
abbrev cX3_settle : ByteArray := prog_5_method_17_code
def yX3_settle : MethodName := ⟨RX3, "settle", "(I)V"⟩
abbrev cX3_hasTraces : ByteArray := prog_5_method_18_code
def yX3_hasTraces : MethodName := ⟨RX3, "hasTraces", "(I)Z"⟩
abbrev cX3_hasWires : ByteArray := prog_5_method_19_code
def yX3_hasWires : MethodName := ⟨RX3, "hasWires", "(I)Z"⟩
abbrev cX3_hasHoles : ByteArray := prog_5_method_20_code
def yX3_hasHoles : MethodName := ⟨RX3, "hasHoles", "(I)Z"⟩
abbrev cX3_anyMove : ByteArray := prog_5_method_21_code
def yX3_anyMove : MethodName := ⟨RX3, "anyMove", "([III)Z"⟩
abbrev cX3_copperAt : ByteArray := prog_5_method_22_code
def yX3_copperAt : MethodName := ⟨RX3, "copperAt", "(I)I"⟩
abbrev cX3_movesAt : ByteArray := prog_5_method_23_code
def yX3_movesAt : MethodName := ⟨RX3, "movesAt", "(II)I"⟩
abbrev cX3_lengthOf : ByteArray := prog_5_method_24_code
def yX3_lengthOf : MethodName := ⟨RX3, "lengthOf", "(I)I"⟩
abbrev cX3_viasOf : ByteArray := prog_5_method_25_code
def yX3_viasOf : MethodName := ⟨RX3, "viasOf", "(I)I"⟩
abbrev cX3_cellsOf : ByteArray := prog_5_method_26_code
def yX3_cellsOf : MethodName := ⟨RX3, "cellsOf", "(I)I"⟩
abbrev cX3_saveTraces : ByteArray := prog_5_method_27_code
def yX3_saveTraces : MethodName := ⟨RX3, "saveTraces", "()V"⟩
abbrev cX3_restoreTraces : ByteArray := prog_5_method_28_code
def yX3_restoreTraces : MethodName := ⟨RX3, "restoreTraces", "()V"⟩
abbrev cX3_isAsSaved : ByteArray := prog_5_method_29_code
def yX3_isAsSaved : MethodName := ⟨RX3, "isAsSaved", "()Z"⟩
def RX4 : String := "CopperBoard$Planes"
def TX4 : u_T := fun k => match k with
  | 0 => ("CopperBoard$Planes", "grid", "LCopperBoard$Grid;", true)
  | 1 => ("CopperBoard$Planes", "nets", "LCopperBoard$Nets;", true)
  | 2 => ("CopperBoard$Planes", "room", "LCopperBoard$Room;", true)
  | 3 => ("CopperBoard$Planes", "parts", "I", false)
  | _ => ("CopperBoard$Planes", "islands", "I", false)
def tyX4 : Nat → FieldType := fun k => match k with
  | 0 => .object "CopperBoard$Grid"
  | 1 => .object "CopperBoard$Nets"
  | 2 => .object "CopperBoard$Room"
  | 3 => .int
  | _ => .int
theorem nmX4 : ∀ a, a < 5 → ∀ b, b < 5 → a ≠ b → (TX4 a).2.1 ≠ (TX4 b).2.1 := by decide +kernel
theorem tyX4_ok : ∀ k, k < 5 → parseFieldDescriptor (TX4 k).2.2.1 = some (tyX4 k) := by decide +kernel
abbrev cX4_init : ByteArray := prog_6_method_1_code
def yX4_init : MethodName := ⟨RX4, "<init>", "(LCopperBoard$Grid;LCopperBoard$Nets;LCopperBoard$Room;)V"⟩
abbrev cX4_figure : ByteArray := prog_6_method_2_code
def yX4_figure : MethodName := ⟨RX4, "figure", "(III)I"⟩
abbrev cX4_partPlane : ByteArray := prog_6_method_3_code
def yX4_partPlane : MethodName := ⟨RX4, "partPlane", "(I)V"⟩
abbrev cX4_hasOwn : ByteArray := prog_6_method_4_code
def yX4_hasOwn : MethodName := ⟨RX4, "hasOwn", "(I)Z"⟩
abbrev cX4_necks : ByteArray := prog_6_method_5_code
def yX4_necks : MethodName := ⟨RX4, "necks", "(I)I"⟩
abbrev cX4_spokesAt : ByteArray := prog_6_method_6_code
def yX4_spokesAt : MethodName := ⟨RX4, "spokesAt", "(II)I"⟩
abbrev cX4_withoutReturn : ByteArray := prog_6_method_7_code
def yX4_withoutReturn : MethodName := ⟨RX4, "withoutReturn", "(III)I"⟩
def RX5 : String := "CopperBoard$Presser"
def TX5 : u_T := fun k => match k with
  | 0 => ("CopperBoard$Presser", "grid", "LCopperBoard$Grid;", true)
  | 1 => ("CopperBoard$Presser", "nets", "LCopperBoard$Nets;", true)
  | 2 => ("CopperBoard$Presser", "room", "LCopperBoard$Room;", true)
  | 3 => ("CopperBoard$Presser", "router", "LCopperBoard$Router;", true)
  | 4 => ("CopperBoard$Presser", "heat", "[I", true)
  | _ => ("CopperBoard$Presser", "crowded", "[I", true)
def tyX5 : Nat → FieldType := fun k => match k with
  | 0 => .object "CopperBoard$Grid"
  | 1 => .object "CopperBoard$Nets"
  | 2 => .object "CopperBoard$Room"
  | 3 => .object "CopperBoard$Router"
  | 4 => .array .int
  | _ => .array .int
theorem nmX5 : ∀ a, a < 6 → ∀ b, b < 6 → a ≠ b → (TX5 a).2.1 ≠ (TX5 b).2.1 := by decide +kernel
theorem tyX5_ok : ∀ k, k < 6 → parseFieldDescriptor (TX5 k).2.2.1 = some (tyX5 k) := by decide +kernel
abbrev cX5_init : ByteArray := prog_7_method_1_code
def yX5_init : MethodName := ⟨RX5, "<init>", "(LCopperBoard$Grid;LCopperBoard$Nets;LCopperBoard$Room;LCopperBoard$Router;)V"⟩
abbrev cX5_layInOrder : ByteArray := prog_7_method_2_code
def yX5_layInOrder : MethodName := ⟨RX5, "layInOrder", "()I"⟩
abbrev cX5_pressAll : ByteArray := prog_7_method_3_code
def yX5_pressAll : MethodName := ⟨RX5, "pressAll", "(II)I"⟩
abbrev cX5_layTurn : ByteArray := prog_7_method_4_code
def yX5_layTurn : MethodName := ⟨RX5, "layTurn", "(I)Z"⟩
abbrev cX5_warmCrowded : ByteArray := prog_7_method_5_code
def yX5_warmCrowded : MethodName := ⟨RX5, "warmCrowded", "()Z"⟩
abbrev cX5_orderFigure : ByteArray := prog_7_method_6_code
def yX5_orderFigure : MethodName := ⟨RX5, "orderFigure", "(I)I"⟩
abbrev cX5_pressFigure : ByteArray := prog_7_method_7_code
def yX5_pressFigure : MethodName := ⟨RX5, "pressFigure", "(III)I"⟩
abbrev cX5_withPins : ByteArray := prog_7_method_8_code
def yX5_withPins : MethodName := ⟨RX5, "withPins", "()I"⟩
abbrev cX5_wholeFigure : ByteArray := prog_7_method_9_code
def yX5_wholeFigure : MethodName := ⟨RX5, "wholeFigure", "(Z)I"⟩
def RX6 : String := "CopperBoard$Room"
def TX6 : u_T := fun k => match k with
  | 0 => ("CopperBoard$Room", "grid", "LCopperBoard$Grid;", true)
  | 1 => ("CopperBoard$Room", "nets", "LCopperBoard$Nets;", true)
  | 2 => ("CopperBoard$Room", "hard", "[I", true)
  | 3 => ("CopperBoard$Room", "soft", "[I", true)
  | 4 => ("CopperBoard$Room", "own", "[I", true)
  | 5 => ("CopperBoard$Room", "free", "[I", true)
  | 6 => ("CopperBoard$Room", "reached", "[I", true)
  | 7 => ("CopperBoard$Room", "queue", "[I", true)
  | 8 => ("CopperBoard$Room", "apart", "[I", true)
  | _ => ("CopperBoard$Room", "looking", "I", false)
def tyX6 : Nat → FieldType := fun k => match k with
  | 0 => .object "CopperBoard$Grid"
  | 1 => .object "CopperBoard$Nets"
  | 2 => .array .int
  | 3 => .array .int
  | 4 => .array .int
  | 5 => .array .int
  | 6 => .array .int
  | 7 => .array .int
  | 8 => .array .int
  | _ => .int
theorem nmX6 : ∀ a, a < 10 → ∀ b, b < 10 → a ≠ b → (TX6 a).2.1 ≠ (TX6 b).2.1 := by decide +kernel
theorem tyX6_ok : ∀ k, k < 10 → parseFieldDescriptor (TX6 k).2.2.1 = some (tyX6 k) := by decide +kernel
abbrev cX6_init : ByteArray := prog_8_method_1_code
def yX6_init : MethodName := ⟨RX6, "<init>", "(LCopperBoard$Grid;LCopperBoard$Nets;)V"⟩
abbrev cX6_look : ByteArray := prog_8_method_2_code
def yX6_look : MethodName := ⟨RX6, "look", "(IZ)V"⟩
abbrev cX6_partOthers : ByteArray := prog_8_method_3_code
def yX6_partOthers : MethodName := ⟨RX6, "partOthers", "(I)V"⟩
abbrev cX6_spreadAll : ByteArray := prog_8_method_4_code
def yX6_spreadAll : MethodName := ⟨RX6, "spreadAll", "(III)V"⟩
abbrev cX6_spread : ByteArray := prog_8_method_5_code
def yX6_spread : MethodName := ⟨RX6, "spread", "(IIII)V"⟩
abbrev cX6_mark : ByteArray := prog_8_method_6_code
def yX6_mark : MethodName := ⟨RX6, "mark", "(I)V"⟩
abbrev cX6_markPlane : ByteArray := prog_8_method_7_code
def yX6_markPlane : MethodName := ⟨RX6, "markPlane", "(I)V"⟩
abbrev cX6_isClear : ByteArray := prog_8_method_8_code
def yX6_isClear : MethodName := ⟨RX6, "isClear", "(II)Z"⟩
abbrev cX6_flood : ByteArray := prog_8_method_9_code
def yX6_flood : MethodName := ⟨RX6, "flood", "(II)I"⟩
abbrev cX6_floodMore : ByteArray := prog_8_method_10_code
def yX6_floodMore : MethodName := ⟨RX6, "floodMore", "(II)I"⟩
abbrev cX6_lowestUnreachedPin : ByteArray := prog_8_method_11_code
def yX6_lowestUnreachedPin : MethodName := ⟨RX6, "lowestUnreachedPin", "(I)I"⟩
abbrev cX6_joinsAllPins : ByteArray := prog_8_method_12_code
def yX6_joinsAllPins : MethodName := ⟨RX6, "joinsAllPins", "(II)Z"⟩
def RX7 : String := "CopperBoard$Router"
def TX7 : u_T := fun k => match k with
  | 0 => ("CopperBoard$Router", "grid", "LCopperBoard$Grid;", true)
  | 1 => ("CopperBoard$Router", "nets", "LCopperBoard$Nets;", true)
  | 2 => ("CopperBoard$Router", "room", "LCopperBoard$Room;", true)
  | 3 => ("CopperBoard$Router", "extra", "[I", true)
  | 4 => ("CopperBoard$Router", "joined", "[I", true)
  | 5 => ("CopperBoard$Router", "queue", "[I", true)
  | 6 => ("CopperBoard$Router", "best", "[I", true)
  | 7 => ("CopperBoard$Router", "heap", "[I", true)
  | 8 => ("CopperBoard$Router", "place", "[I", true)
  | 9 => ("CopperBoard$Router", "waiting", "I", false)
  | 10 => ("CopperBoard$Router", "lanes", "I", false)
  | 11 => ("CopperBoard$Router", "moves", "I", false)
  | 12 => ("CopperBoard$Router", "stepKey", "I", false)
  | 13 => ("CopperBoard$Router", "viaKey", "I", false)
  | _ => ("CopperBoard$Router", "bendKey", "I", false)
def tyX7 : Nat → FieldType := fun k => match k with
  | 0 => .object "CopperBoard$Grid"
  | 1 => .object "CopperBoard$Nets"
  | 2 => .object "CopperBoard$Room"
  | 3 => .array .int
  | 4 => .array .int
  | 5 => .array .int
  | 6 => .array .int
  | 7 => .array .int
  | 8 => .array .int
  | 9 => .int
  | 10 => .int
  | 11 => .int
  | 12 => .int
  | 13 => .int
  | _ => .int
theorem nmX7 : ∀ a, a < 15 → ∀ b, b < 15 → a ≠ b → (TX7 a).2.1 ≠ (TX7 b).2.1 := by decide +kernel
theorem tyX7_ok : ∀ k, k < 15 → parseFieldDescriptor (TX7 k).2.2.1 = some (tyX7 k) := by decide +kernel
abbrev cX7_init : ByteArray := prog_9_method_1_code
def yX7_init : MethodName := ⟨RX7, "<init>", "(LCopperBoard$Grid;LCopperBoard$Nets;LCopperBoard$Room;)V"⟩
abbrev cX7_layNet : ByteArray := prog_9_method_2_code
def yX7_layNet : MethodName := ⟨RX7, "layNet", "(I)I"⟩
abbrev cX7_tryCost : ByteArray := prog_9_method_3_code
def yX7_tryCost : MethodName := ⟨RX7, "tryCost", "(IZ)I"⟩
abbrev cX7_layRows : ByteArray := prog_9_method_4_code
def yX7_layRows : MethodName := ⟨RX7, "layRows", "(IZ)I"⟩
abbrev cX7_markJoined : ByteArray := prog_9_method_5_code
def yX7_markJoined : MethodName := ⟨RX7, "markJoined", "(I)V"⟩
abbrev cX7_search : ByteArray := prog_9_method_6_code
def yX7_search : MethodName := ⟨RX7, "search", "(I)Z"⟩
abbrev cX7_comeFrom : ByteArray := prog_9_method_7_code
def yX7_comeFrom : MethodName := ⟨RX7, "comeFrom", "(I)V"⟩
abbrev cX7_bendFrom : ByteArray := prog_9_method_8_code
def yX7_bendFrom : MethodName := ⟨RX7, "bendFrom", "(II)I"⟩
abbrev cX7_offer : ByteArray := prog_9_method_9_code
def yX7_offer : MethodName := ⟨RX7, "offer", "(II)V"⟩
abbrev cX7_takeLeast : ByteArray := prog_9_method_10_code
def yX7_takeLeast : MethodName := ⟨RX7, "takeLeast", "()I"⟩
abbrev cX7_walk : ByteArray := prog_9_method_11_code
def yX7_walk : MethodName := ⟨RX7, "walk", "(II)V"⟩
abbrev cX7_laneBehind : ByteArray := prog_9_method_12_code
def yX7_laneBehind : MethodName := ⟨RX7, "laneBehind", "(II)I"⟩
abbrev cX7_firstMove : ByteArray := prog_9_method_13_code
def yX7_firstMove : MethodName := ⟨RX7, "firstMove", "(II)I"⟩
def RX8 : String := "CopperBoard$Tape"
def TX8 : u_T := fun k => match k with
  | 0 => ("CopperBoard$Tape", "layers", "I", true)
  | 1 => ("CopperBoard$Tape", "bytes", "[I", true)
  | 2 => ("CopperBoard$Tape", "found", "[I", true)
  | 3 => ("CopperBoard$Tape", "length", "I", false)
  | 4 => ("CopperBoard$Tape", "at", "I", false)
  | _ => ("CopperBoard$Tape", "seen", "I", false)
def tyX8 : Nat → FieldType := fun k => match k with
  | 0 => .int
  | 1 => .array .int
  | 2 => .array .int
  | 3 => .int
  | 4 => .int
  | _ => .int
theorem nmX8 : ∀ a, a < 6 → ∀ b, b < 6 → a ≠ b → (TX8 a).2.1 ≠ (TX8 b).2.1 := by decide +kernel
theorem tyX8_ok : ∀ k, k < 6 → parseFieldDescriptor (TX8 k).2.2.1 = some (tyX8 k) := by decide +kernel
abbrev cX8_init : ByteArray := prog_10_method_1_code
def yX8_init : MethodName := ⟨RX8, "<init>", "(I)V"⟩
abbrev cX8_bytesIn : ByteArray := prog_10_method_2_code
def yX8_bytesIn : MethodName := ⟨RX8, "bytesIn", "(I)I"⟩
abbrev cX8_take : ByteArray := prog_10_method_3_code
def yX8_take : MethodName := ⟨RX8, "take", "(I)V"⟩
abbrev cX8_scan : ByteArray := prog_10_method_4_code
def yX8_scan : MethodName := ⟨RX8, "scan", "()I"⟩
abbrev cX8_readSetting : ByteArray := prog_10_method_5_code
def yX8_readSetting : MethodName := ⟨RX8, "readSetting", "()Z"⟩
abbrev cX8_kindHere : ByteArray := prog_10_method_6_code
def yX8_kindHere : MethodName := ⟨RX8, "kindHere", "()I"⟩
abbrev cX8_digitHere : ByteArray := prog_10_method_7_code
def yX8_digitHere : MethodName := ⟨RX8, "digitHere", "()I"⟩
abbrev cX8_skipBlanks : ByteArray := prog_10_method_8_code
def yX8_skipBlanks : MethodName := ⟨RX8, "skipBlanks", "()V"⟩
abbrev cX8_readNumber : ByteArray := prog_10_method_9_code
def yX8_readNumber : MethodName := ⟨RX8, "readNumber", "(I)Z"⟩
abbrev cX8_readLayers : ByteArray := prog_10_method_10_code
def yX8_readLayers : MethodName := ⟨RX8, "readLayers", "()Z"⟩
def RX9 : String := "CopperBoard$Trail"
def TX9 : u_T := fun k => match k with
  | 0 => ("CopperBoard$Trail", "grid", "LCopperBoard$Grid;", true)
  | 1 => ("CopperBoard$Trail", "nets", "LCopperBoard$Nets;", true)
  | 2 => ("CopperBoard$Trail", "room", "LCopperBoard$Room;", true)
  | 3 => ("CopperBoard$Trail", "cells", "[I", true)
  | 4 => ("CopperBoard$Trail", "moveFrom", "[I", true)
  | _ => ("CopperBoard$Trail", "steps", "I", false)
def tyX9 : Nat → FieldType := fun k => match k with
  | 0 => .object "CopperBoard$Grid"
  | 1 => .object "CopperBoard$Nets"
  | 2 => .object "CopperBoard$Room"
  | 3 => .array .int
  | 4 => .array .int
  | _ => .int
theorem nmX9 : ∀ a, a < 6 → ∀ b, b < 6 → a ≠ b → (TX9 a).2.1 ≠ (TX9 b).2.1 := by decide +kernel
theorem tyX9_ok : ∀ k, k < 6 → parseFieldDescriptor (TX9 k).2.2.1 = some (tyX9 k) := by decide +kernel
abbrev cX9_init : ByteArray := prog_11_method_1_code
def yX9_init : MethodName := ⟨RX9, "<init>", "(LCopperBoard$Grid;LCopperBoard$Nets;LCopperBoard$Room;)V"⟩
abbrev cX9_canFollow : ByteArray := prog_11_method_2_code
def yX9_canFollow : MethodName := ⟨RX9, "canFollow", "(I)Z"⟩
abbrev cX9_follow : ByteArray := prog_11_method_3_code
def yX9_follow : MethodName := ⟨RX9, "follow", "(I)V"⟩
abbrev cX9_bendOut : ByteArray := prog_11_method_4_code
def yX9_bendOut : MethodName := ⟨RX9, "bendOut", "(II)I"⟩
abbrev cX9_goBeside : ByteArray := prog_11_method_5_code
def yX9_goBeside : MethodName := ⟨RX9, "goBeside", "(IIII)Z"⟩
abbrev cX9_isOpen : ByteArray := prog_11_method_6_code
def yX9_isOpen : MethodName := ⟨RX9, "isOpen", "(II)Z"⟩
abbrev cX9_longestBeside : ByteArray := prog_11_method_7_code
def yX9_longestBeside : MethodName := ⟨RX9, "longestBeside", "(II)I"⟩
abbrev cX9_touches : ByteArray := prog_11_method_8_code
def yX9_touches : MethodName := ⟨RX9, "touches", "(II)Z"⟩
def RX10 : String := "CopperBoard$Trial"
def TX10 : u_T := fun k => match k with
  | 0 => ("CopperBoard$Trial", "grid", "LCopperBoard$Grid;", true)
  | 1 => ("CopperBoard$Trial", "nets", "LCopperBoard$Nets;", true)
  | 2 => ("CopperBoard$Trial", "room", "LCopperBoard$Room;", true)
  | 3 => ("CopperBoard$Trial", "chosen", "[I", true)
  | 4 => ("CopperBoard$Trial", "base", "[I", true)
  | 5 => ("CopperBoard$Trial", "ways", "[I", true)
  | 6 => ("CopperBoard$Trial", "amount", "I", false)
  | 7 => ("CopperBoard$Trial", "notFirstColumn", "I", false)
  | 8 => ("CopperBoard$Trial", "notLastColumn", "I", false)
  | 9 => ("CopperBoard$Trial", "notFirstRow", "I", false)
  | _ => ("CopperBoard$Trial", "notLastRow", "I", false)
def tyX10 : Nat → FieldType := fun k => match k with
  | 0 => .object "CopperBoard$Grid"
  | 1 => .object "CopperBoard$Nets"
  | 2 => .object "CopperBoard$Room"
  | 3 => .array .int
  | 4 => .array .int
  | 5 => .array .int
  | 6 => .int
  | 7 => .int
  | 8 => .int
  | 9 => .int
  | _ => .int
theorem nmX10 : ∀ a, a < 11 → ∀ b, b < 11 → a ≠ b → (TX10 a).2.1 ≠ (TX10 b).2.1 := by decide +kernel
theorem tyX10_ok : ∀ k, k < 11 → parseFieldDescriptor (TX10 k).2.2.1 = some (tyX10 k) := by decide +kernel
abbrev cX10_init : ByteArray := prog_12_method_1_code
def yX10_init : MethodName := ⟨RX10, "<init>", "(LCopperBoard$Grid;LCopperBoard$Nets;LCopperBoard$Room;)V"⟩
abbrev cX10_tryWholly : ByteArray := prog_12_method_2_code
def yX10_tryWholly : MethodName := ⟨RX10, "tryWholly", "(I)I"⟩
abbrev cX10_openCells : ByteArray := prog_12_method_3_code
def yX10_openCells : MethodName := ⟨RX10, "openCells", "(II)I"⟩
abbrev cX10_findWays : ByteArray := prog_12_method_4_code
def yX10_findWays : MethodName := ⟨RX10, "findWays", "(II)Z"⟩
abbrev cX10_extend : ByteArray := prog_12_method_5_code
def yX10_extend : MethodName := ⟨RX10, "extend", "(IIII)Z"⟩
abbrev cX10_laterCanJoin : ByteArray := prog_12_method_6_code
def yX10_laterCanJoin : MethodName := ⟨RX10, "laterCanJoin", "(II)Z"⟩
abbrev cX10_openAt : ByteArray := prog_12_method_7_code
def yX10_openAt : MethodName := ⟨RX10, "openAt", "(II)I"⟩
abbrev cX10_widened : ByteArray := prog_12_method_8_code
def yX10_widened : MethodName := ⟨RX10, "widened", "(II)I"⟩
abbrev cX10_oneMove : ByteArray := prog_12_method_9_code
def yX10_oneMove : MethodName := ⟨RX10, "oneMove", "(I)I"⟩
abbrev cX10_canReach : ByteArray := prog_12_method_10_code
def yX10_canReach : MethodName := ⟨RX10, "canReach", "(III)Z"⟩
def RX11 : String := "CopperBoard"
def TX11 : u_T := fun k => match k with
  | 0 => ("CopperBoard", "grid", "LCopperBoard$Grid;", true)
  | 1 => ("CopperBoard", "tape", "LCopperBoard$Tape;", true)
  | 2 => ("CopperBoard", "nets", "LCopperBoard$Nets;", true)
  | 3 => ("CopperBoard", "room", "LCopperBoard$Room;", true)
  | 4 => ("CopperBoard", "router", "LCopperBoard$Router;", true)
  | 5 => ("CopperBoard", "presser", "LCopperBoard$Presser;", true)
  | 6 => ("CopperBoard", "chooser", "LCopperBoard$Chooser;", true)
  | 7 => ("CopperBoard", "trial", "LCopperBoard$Trial;", true)
  | 8 => ("CopperBoard", "planes", "LCopperBoard$Planes;", true)
  | 9 => ("CopperBoard", "checks", "LCopperBoard$Checks;", true)
  | _ => ("CopperBoard", "trail", "LCopperBoard$Trail;", true)
def tyX11 : Nat → FieldType := fun k => match k with
  | 0 => .object "CopperBoard$Grid"
  | 1 => .object "CopperBoard$Tape"
  | 2 => .object "CopperBoard$Nets"
  | 3 => .object "CopperBoard$Room"
  | 4 => .object "CopperBoard$Router"
  | 5 => .object "CopperBoard$Presser"
  | 6 => .object "CopperBoard$Chooser"
  | 7 => .object "CopperBoard$Trial"
  | 8 => .object "CopperBoard$Planes"
  | 9 => .object "CopperBoard$Checks"
  | _ => .object "CopperBoard$Trail"
theorem nmX11 : ∀ a, a < 11 → ∀ b, b < 11 → a ≠ b → (TX11 a).2.1 ≠ (TX11 b).2.1 := by decide +kernel
theorem tyX11_ok : ∀ k, k < 11 → parseFieldDescriptor (TX11 k).2.2.1 = some (tyX11 k) := by decide +kernel
abbrev cX11_init : ByteArray := prog_1_method_1_code
def yX11_init : MethodName := ⟨RX11, "<init>", "(III)V"⟩
abbrev cX11_feed : ByteArray := prog_1_method_2_code
def yX11_feed : MethodName := ⟨RX11, "feed", "(IIIII)I"⟩
abbrev cX11_end : ByteArray := prog_1_method_3_code
def yX11_end : MethodName := ⟨RX11, "end", "(I)Z"⟩
abbrev cX11_fault : ByteArray := prog_1_method_4_code
def yX11_fault : MethodName := ⟨RX11, "fault", "()I"⟩
abbrev cX11_sort : ByteArray := prog_1_method_5_code
def yX11_sort : MethodName := ⟨RX11, "sort", "()I"⟩
abbrev cX11_told : ByteArray := prog_1_method_6_code
def yX11_told : MethodName := ⟨RX11, "told", "(II)I"⟩
abbrev cX11_net : ByteArray := prog_1_method_7_code
def yX11_net : MethodName := ⟨RX11, "net", "(I)I"⟩
abbrev cX11_pin : ByteArray := prog_1_method_8_code
def yX11_pin : MethodName := ⟨RX11, "pin", "(IIII)I"⟩
abbrev cX11_keep : ByteArray := prog_1_method_9_code
def yX11_keep : MethodName := ⟨RX11, "keep", "(IIIII)Z"⟩
abbrev cX11_wire : ByteArray := prog_1_method_10_code
def yX11_wire : MethodName := ⟨RX11, "wire", "(IIIIII)Z"⟩
abbrev cX11_hole : ByteArray := prog_1_method_11_code
def yX11_hole : MethodName := ⟨RX11, "hole", "(IIII)Z"⟩
abbrev cX11_copper : ByteArray := prog_1_method_12_code
def yX11_copper : MethodName := ⟨RX11, "copper", "(III)I"⟩
abbrev cX11_free : ByteArray := prog_1_method_13_code
def yX11_free : MethodName := ⟨RX11, "free", "(IIII)I"⟩
abbrev cX11_lay : ByteArray := prog_1_method_14_code
def yX11_lay : MethodName := ⟨RX11, "lay", "(I)I"⟩
abbrev cX11_cost : ByteArray := prog_1_method_15_code
def yX11_cost : MethodName := ⟨RX11, "cost", "(IZ)I"⟩
abbrev cX11_rip : ByteArray := prog_1_method_16_code
def yX11_rip : MethodName := ⟨RX11, "rip", "(I)Z"⟩
abbrev cX11_rank : ByteArray := prog_1_method_17_code
def yX11_rank : MethodName := ⟨RX11, "rank", "(II)Z"⟩
abbrev cX11_order : ByteArray := prog_1_method_18_code
def yX11_order : MethodName := ⟨RX11, "order", "()I"⟩
abbrev cX11_press : ByteArray := prog_1_method_19_code
def yX11_press : MethodName := ⟨RX11, "press", "(II)I"⟩
abbrev cX11_cut : ByteArray := prog_1_method_20_code
def yX11_cut : MethodName := ⟨RX11, "cut", "(II)I"⟩
abbrev cX11_bars : ByteArray := prog_1_method_21_code
def yX11_bars : MethodName := ⟨RX11, "bars", "(I)I"⟩
abbrev cX11_together : ByteArray := prog_1_method_22_code
def yX11_together : MethodName := ⟨RX11, "together", "(I)I"⟩
abbrev cX11_about : ByteArray := prog_1_method_23_code
def yX11_about : MethodName := ⟨RX11, "about", "(II)I"⟩
abbrev cX11_stretch : ByteArray := prog_1_method_24_code
def yX11_stretch : MethodName := ⟨RX11, "stretch", "(II)I"⟩
abbrev cX11_span : ByteArray := prog_1_method_25_code
def yX11_span : MethodName := ⟨RX11, "span", "(I)I"⟩
abbrev cX11_equal : ByteArray := prog_1_method_26_code
def yX11_equal : MethodName := ⟨RX11, "equal", "(II)I"⟩
abbrev cX11_plane : ByteArray := prog_1_method_27_code
def yX11_plane : MethodName := ⟨RX11, "plane", "(III)I"⟩
abbrev cX11_spokes : ByteArray := prog_1_method_28_code
def yX11_spokes : MethodName := ⟨RX11, "spokes", "(II)I"⟩
abbrev cX11_back : ByteArray := prog_1_method_29_code
def yX11_back : MethodName := ⟨RX11, "back", "(III)I"⟩
abbrev cX11_wander : ByteArray := prog_1_method_30_code
def yX11_wander : MethodName := ⟨RX11, "wander", "(III)I"⟩
abbrev cX11_worst : ByteArray := prog_1_method_31_code
def yX11_worst : MethodName := ⟨RX11, "worst", "(II)I"⟩
abbrev cX11_late : ByteArray := prog_1_method_32_code
def yX11_late : MethodName := ⟨RX11, "late", "(IIIII)I"⟩
abbrev cX11_netlist : ByteArray := prog_1_method_33_code
def yX11_netlist : MethodName := ⟨RX11, "netlist", "(I)I"⟩
abbrev cX11_test : ByteArray := prog_1_method_34_code
def yX11_test : MethodName := ⟨RX11, "test", "(I)I"⟩
abbrev cX11_slow : ByteArray := prog_1_method_35_code
def yX11_slow : MethodName := ⟨RX11, "slow", "(II)Z"⟩
abbrev cX11_delay : ByteArray := prog_1_method_36_code
def yX11_delay : MethodName := ⟨RX11, "delay", "(I)I"⟩
abbrev cX11_pair : ByteArray := prog_1_method_37_code
def yX11_pair : MethodName := ⟨RX11, "pair", "(III)I"⟩
abbrev cX11_beside : ByteArray := prog_1_method_38_code
def yX11_beside : MethodName := ⟨RX11, "beside", "(III)I"⟩
abbrev cX11_why : ByteArray := prog_1_method_39_code
def yX11_why : MethodName := ⟨RX11, "why", "(I)I"⟩
abbrev cX11_steady : ByteArray := prog_1_method_40_code
def yX11_steady : MethodName := ⟨RX11, "steady", "()Z"⟩
abbrev cX11_panel : ByteArray := prog_1_method_41_code
def yX11_panel : MethodName := ⟨RX11, "panel", "(IIII)I"⟩
abbrev cX11_unwire : ByteArray := prog_1_method_42_code
def yX11_unwire : MethodName := ⟨RX11, "unwire", "(I)Z"⟩
abbrev cX11_count : ByteArray := prog_1_method_43_code
def yX11_count : MethodName := ⟨RX11, "count", "(I)I"⟩
abbrev cX11_within : ByteArray := prog_1_method_44_code
def yX11_within : MethodName := ⟨RX11, "within", "(III)I"⟩
abbrev cX11_isNet : ByteArray := prog_1_method_45_code
def yX11_isNet : MethodName := ⟨RX11, "isNet", "(I)Z"⟩
abbrev cX11_isLayer : ByteArray := prog_1_method_46_code
def yX11_isLayer : MethodName := ⟨RX11, "isLayer", "(I)Z"⟩
abbrev cX11_areNets : ByteArray := prog_1_method_47_code
def yX11_areNets : MethodName := ⟨RX11, "areNets", "(I)Z"⟩
abbrev cX11_arePressing : ByteArray := prog_1_method_48_code
def yX11_arePressing : MethodName := ⟨RX11, "arePressing", "(II)Z"⟩
abbrev cX11_fitting : ByteArray := prog_1_method_49_code
def yX11_fitting : MethodName := ⟨RX11, "fitting", "(III)I"⟩
abbrev cX11_splitSheet : ByteArray := prog_1_method_50_code
def yX11_splitSheet : MethodName := ⟨RX11, "splitSheet", "(IIIZ)I"⟩
def RX12 : String := "CopperBoardModel"
def TX12 : u_T := fun k => match k with
  | 0 => ("CopperBoardModel", "thrown", "I", false)
  | 1 => ("CopperBoardModel", "wide", "I", true)
  | 2 => ("CopperBoardModel", "deep", "I", true)
  | 3 => ("CopperBoardModel", "layers", "I", true)
  | 4 => ("CopperBoardModel", "tape", "[I", true)
  | 5 => ("CopperBoardModel", "size", "I", false)
  | 6 => ("CopperBoardModel", "at", "I", false)
  | 7 => ("CopperBoardModel", "wrong", "I", false)
  | 8 => ("CopperBoardModel", "step", "[I", true)
  | 9 => ("CopperBoardModel", "via", "[I", true)
  | 10 => ("CopperBoardModel", "bend", "[I", true)
  | 11 => ("CopperBoardModel", "clear", "[I", true)
  | 12 => ("CopperBoardModel", "on", "[I", true)
  | 13 => ("CopperBoardModel", "sorts", "I", false)
  | 14 => ("CopperBoardModel", "given", "I", false)
  | 15 => ("CopperBoardModel", "sortOf", "[I", true)
  | 16 => ("CopperBoardModel", "rank", "[I", true)
  | 17 => ("CopperBoardModel", "pins", "[I", true)
  | 18 => ("CopperBoardModel", "pinAt", "[I", true)
  | 19 => ("CopperBoardModel", "wires", "[I", true)
  | 20 => ("CopperBoardModel", "wireFrom", "[I", true)
  | 21 => ("CopperBoardModel", "wireTo", "[I", true)
  | 22 => ("CopperBoardModel", "traces", "[I", true)
  | 23 => ("CopperBoardModel", "traceFrom", "[I", true)
  | 24 => ("CopperBoardModel", "traceTo", "[I", true)
  | 25 => ("CopperBoardModel", "kept", "[Z", true)
  | 26 => ("CopperBoardModel", "nets", "I", false)
  | 27 => ("CopperBoardModel", "copper", "[I", true)
  | 28 => ("CopperBoardModel", "gone", "I", false)
  | 29 => ("CopperBoardModel", "self", "I", false)
  | 30 => ("CopperBoardModel", "presses", "Z", false)
  | 31 => ("CopperBoardModel", "oldFrom", "[I", true)
  | 32 => ("CopperBoardModel", "oldTo", "[I", true)
  | 33 => ("CopperBoardModel", "olds", "I", false)
  | 34 => ("CopperBoardModel", "allFrom", "[I", true)
  | 35 => ("CopperBoardModel", "allTo", "[I", true)
  | 36 => ("CopperBoardModel", "allMany", "[I", true)
  | 37 => ("CopperBoardModel", "joined", "[Z", true)
  | 38 => ("CopperBoardModel", "still", "[I", true)
  | 39 => ("CopperBoardModel", "open", "[Z", true)
  | 40 => ("CopperBoardModel", "extra", "[I", true)
  | 41 => ("CopperBoardModel", "hasVias", "Z", false)
  | 42 => ("CopperBoardModel", "heat", "[I", true)
  | 43 => ("CopperBoardModel", "reached", "[Z", true)
  | 44 => ("CopperBoardModel", "row", "[I", true)
  | 45 => ("CopperBoardModel", "plane", "[Z", true)
  | 46 => ("CopperBoardModel", "part", "[I", true)
  | 47 => ("CopperBoardModel", "shorts", "I", false)
  | 48 => ("CopperBoardModel", "opens", "I", false)
  | 49 => ("CopperBoardModel", "node", "[I", true)
  | 50 => ("CopperBoardModel", "slow", "[I", true)
  | 51 => ("CopperBoardModel", "nowFrom", "[I", true)
  | 52 => ("CopperBoardModel", "nowTo", "[I", true)
  | _ => ("CopperBoardModel", "nowMany", "[I", true)
def tyX12 : Nat → FieldType := fun k => match k with
  | 0 => .int
  | 1 => .int
  | 2 => .int
  | 3 => .int
  | 4 => .array .int
  | 5 => .int
  | 6 => .int
  | 7 => .int
  | 8 => .array .int
  | 9 => .array .int
  | 10 => .array .int
  | 11 => .array .int
  | 12 => .array .int
  | 13 => .int
  | 14 => .int
  | 15 => .array .int
  | 16 => .array .int
  | 17 => .array .int
  | 18 => .array .int
  | 19 => .array .int
  | 20 => .array .int
  | 21 => .array .int
  | 22 => .array .int
  | 23 => .array .int
  | 24 => .array .int
  | 25 => .array .boolean
  | 26 => .int
  | 27 => .array .int
  | 28 => .int
  | 29 => .int
  | 30 => .boolean
  | 31 => .array .int
  | 32 => .array .int
  | 33 => .int
  | 34 => .array .int
  | 35 => .array .int
  | 36 => .array .int
  | 37 => .array .boolean
  | 38 => .array .int
  | 39 => .array .boolean
  | 40 => .array .int
  | 41 => .boolean
  | 42 => .array .int
  | 43 => .array .boolean
  | 44 => .array .int
  | 45 => .array .boolean
  | 46 => .array .int
  | 47 => .int
  | 48 => .int
  | 49 => .array .int
  | 50 => .array .int
  | 51 => .array .int
  | 52 => .array .int
  | _ => .array .int
theorem nmX12 : ∀ a, a < 54 → ∀ b, b < 54 → a ≠ b → (TX12 a).2.1 ≠ (TX12 b).2.1 := by decide +kernel
theorem tyX12_ok : ∀ k, k < 54 → parseFieldDescriptor (TX12 k).2.2.1 = some (tyX12 k) := by decide +kernel
abbrev cX12_in : ByteArray := prog_14_method_1_code
def yX12_in : MethodName := ⟨RX12, "in", "(III)Z"⟩
abbrev cX12_within : ByteArray := prog_14_method_2_code
def yX12_within : MethodName := ⟨RX12, "within", "(III)I"⟩
abbrev cX12_init : ByteArray := prog_14_method_3_code
def yX12_init : MethodName := ⟨RX12, "<init>", "(III)V"⟩
abbrev cX12_thrown : ByteArray := prog_14_method_4_code
def yX12_thrown : MethodName := ⟨RX12, "thrown", "()I"⟩
abbrev cX12_byteOf : ByteArray := prog_14_method_5_code
def yX12_byteOf : MethodName := ⟨RX12, "byteOf", "(IIIIII)I"⟩
abbrev cX12_feed : ByteArray := prog_14_method_6_code
def yX12_feed : MethodName := ⟨RX12, "feed", "(IIIII)I"⟩
abbrev cX12_end : ByteArray := prog_14_method_7_code
def yX12_end : MethodName := ⟨RX12, "end", "(I)Z"⟩
abbrev cX12_here : ByteArray := prog_14_method_8_code
def yX12_here : MethodName := ⟨RX12, "here", "()I"⟩
abbrev cX12_look : ByteArray := prog_14_method_9_code
def yX12_look : MethodName := ⟨RX12, "look", "()I"⟩
abbrev cX12_bad : ByteArray := prog_14_method_10_code
def yX12_bad : MethodName := ⟨RX12, "bad", "()V"⟩
abbrev cX12_isDigit : ByteArray := prog_14_method_11_code
def yX12_isDigit : MethodName := ⟨RX12, "isDigit", "(I)Z"⟩
abbrev cX12_number : ByteArray := prog_14_method_12_code
def yX12_number : MethodName := ⟨RX12, "number", "(II)I"⟩
abbrev cX12_letterAt : ByteArray := prog_14_method_13_code
def yX12_letterAt : MethodName := ⟨RX12, "letterAt", "(I)I"⟩
abbrev cX12_setting : ByteArray := prog_14_method_14_code
def yX12_setting : MethodName := ⟨RX12, "setting", "(I)V"⟩
abbrev cX12_readLayers : ByteArray := prog_14_method_15_code
def yX12_readLayers : MethodName := ⟨RX12, "readLayers", "(I)V"⟩
abbrev cX12_readSort : ByteArray := prog_14_method_16_code
def yX12_readSort : MethodName := ⟨RX12, "readSort", "(I)I"⟩
abbrev cX12_fault : ByteArray := prog_14_method_17_code
def yX12_fault : MethodName := ⟨RX12, "fault", "()I"⟩
abbrev cX12_sort : ByteArray := prog_14_method_18_code
def yX12_sort : MethodName := ⟨RX12, "sort", "()I"⟩
abbrev cX12_told : ByteArray := prog_14_method_19_code
def yX12_told : MethodName := ⟨RX12, "told", "(II)I"⟩
abbrev cX12_isNet : ByteArray := prog_14_method_20_code
def yX12_isNet : MethodName := ⟨RX12, "isNet", "(I)Z"⟩
abbrev cX12_isCell : ByteArray := prog_14_method_21_code
def yX12_isCell : MethodName := ⟨RX12, "isCell", "(III)Z"⟩
abbrev cX12_cell : ByteArray := prog_14_method_22_code
def yX12_cell : MethodName := ⟨RX12, "cell", "(III)I"⟩
abbrev cX12_xOf : ByteArray := prog_14_method_23_code
def yX12_xOf : MethodName := ⟨RX12, "xOf", "(I)I"⟩
abbrev cX12_yOf : ByteArray := prog_14_method_24_code
def yX12_yOf : MethodName := ⟨RX12, "yOf", "(I)I"⟩
abbrev cX12_layerOf : ByteArray := prog_14_method_25_code
def yX12_layerOf : MethodName := ⟨RX12, "layerOf", "(I)I"⟩
abbrev cX12_moved : ByteArray := prog_14_method_26_code
def yX12_moved : MethodName := ⟨RX12, "moved", "(II)I"⟩
abbrev cX12_net : ByteArray := prog_14_method_27_code
def yX12_net : MethodName := ⟨RX12, "net", "(I)I"⟩
abbrev cX12_pinOn : ByteArray := prog_14_method_28_code
def yX12_pinOn : MethodName := ⟨RX12, "pinOn", "(I)I"⟩
abbrev cX12_pin : ByteArray := prog_14_method_29_code
def yX12_pin : MethodName := ⟨RX12, "pin", "(IIII)I"⟩
abbrev cX12_keep : ByteArray := prog_14_method_30_code
def yX12_keep : MethodName := ⟨RX12, "keep", "(IIIII)Z"⟩
abbrev cX12_hasWire : ByteArray := prog_14_method_31_code
def yX12_hasWire : MethodName := ⟨RX12, "hasWire", "(III)Z"⟩
abbrev cX12_addWire : ByteArray := prog_14_method_32_code
def yX12_addWire : MethodName := ⟨RX12, "addWire", "(III)V"⟩
abbrev cX12_wire : ByteArray := prog_14_method_33_code
def yX12_wire : MethodName := ⟨RX12, "wire", "(IIIIII)Z"⟩
abbrev cX12_hole : ByteArray := prog_14_method_34_code
def yX12_hole : MethodName := ⟨RX12, "hole", "(IIII)Z"⟩
abbrev cX12_has : ByteArray := prog_14_method_35_code
def yX12_has : MethodName := ⟨RX12, "has", "(II)Z"⟩
abbrev cX12_copper : ByteArray := prog_14_method_36_code
def yX12_copper : MethodName := ⟨RX12, "copper", "(III)I"⟩
abbrev cX12_counts : ByteArray := prog_14_method_37_code
def yX12_counts : MethodName := ⟨RX12, "counts", "(II)Z"⟩
abbrev cX12_apart : ByteArray := prog_14_method_38_code
def yX12_apart : MethodName := ⟨RX12, "apart", "(II)I"⟩
abbrev cX12_isNear : ByteArray := prog_14_method_39_code
def yX12_isNear : MethodName := ⟨RX12, "isNear", "(III)Z"⟩
abbrev cX12_isFree : ByteArray := prog_14_method_40_code
def yX12_isFree : MethodName := ⟨RX12, "isFree", "(IIZ)Z"⟩
abbrev cX12_free : ByteArray := prog_14_method_41_code
def yX12_free : MethodName := ⟨RX12, "free", "(IIII)I"⟩
abbrev cX12_paint : ByteArray := prog_14_method_42_code
def yX12_paint : MethodName := ⟨RX12, "paint", "(I)V"⟩
abbrev cX12_takeOff : ByteArray := prog_14_method_43_code
def yX12_takeOff : MethodName := ⟨RX12, "takeOff", "(I)V"⟩
abbrev cX12_putBack : ByteArray := prog_14_method_44_code
def yX12_putBack : MethodName := ⟨RX12, "putBack", "(I)V"⟩
abbrev cX12_addTrace : ByteArray := prog_14_method_45_code
def yX12_addTrace : MethodName := ⟨RX12, "addTrace", "(III)V"⟩
abbrev cX12_takeAllOff : ByteArray := prog_14_method_46_code
def yX12_takeAllOff : MethodName := ⟨RX12, "takeAllOff", "()V"⟩
abbrev cX12_ripAll : ByteArray := prog_14_method_47_code
def yX12_ripAll : MethodName := ⟨RX12, "ripAll", "()V"⟩
abbrev cX12_putAllBack : ByteArray := prog_14_method_48_code
def yX12_putAllBack : MethodName := ⟨RX12, "putAllBack", "()V"⟩
abbrev cX12_joins : ByteArray := prog_14_method_49_code
def yX12_joins : MethodName := ⟨RX12, "joins", "(II)Z"⟩
abbrev cX12_join : ByteArray := prog_14_method_50_code
def yX12_join : MethodName := ⟨RX12, "join", "(II)V"⟩
abbrev cX12_costOf : ByteArray := prog_14_method_51_code
def yX12_costOf : MethodName := ⟨RX12, "costOf", "(IIII)I"⟩
abbrev cX12_bestFrom : ByteArray := prog_14_method_52_code
def yX12_bestFrom : MethodName := ⟨RX12, "bestFrom", "(III)I"⟩
abbrev cX12_relax : ByteArray := prog_14_method_53_code
def yX12_relax : MethodName := ⟨RX12, "relax", "(II)Z"⟩
abbrev cX12_weigh : ByteArray := prog_14_method_54_code
def yX12_weigh : MethodName := ⟨RX12, "weigh", "(I)V"⟩
abbrev cX12_leads : ByteArray := prog_14_method_55_code
def yX12_leads : MethodName := ⟨RX12, "leads", "(IIII)Z"⟩
abbrev cX12_go : ByteArray := prog_14_method_56_code
def yX12_go : MethodName := ⟨RX12, "go", "(II)I"⟩
abbrev cX12_layNet : ByteArray := prog_14_method_57_code
def yX12_layNet : MethodName := ⟨RX12, "layNet", "(I)I"⟩
abbrev cX12_plainly : ByteArray := prog_14_method_58_code
def yX12_plainly : MethodName := ⟨RX12, "plainly", "(Z)V"⟩
abbrev cX12_lay : ByteArray := prog_14_method_59_code
def yX12_lay : MethodName := ⟨RX12, "lay", "(I)I"⟩
abbrev cX12_tried : ByteArray := prog_14_method_60_code
def yX12_tried : MethodName := ⟨RX12, "tried", "(I)I"⟩
abbrev cX12_cost : ByteArray := prog_14_method_61_code
def yX12_cost : MethodName := ⟨RX12, "cost", "(IZ)I"⟩
abbrev cX12_rip : ByteArray := prog_14_method_62_code
def yX12_rip : MethodName := ⟨RX12, "rip", "(I)Z"⟩
abbrev cX12_rank : ByteArray := prog_14_method_63_code
def yX12_rank : MethodName := ⟨RX12, "rank", "(II)Z"⟩
abbrev cX12_order : ByteArray := prog_14_method_64_code
def yX12_order : MethodName := ⟨RX12, "order", "()I"⟩
abbrev cX12_hasTrace : ByteArray := prog_14_method_65_code
def yX12_hasTrace : MethodName := ⟨RX12, "hasTrace", "(II)Z"⟩
abbrev cX12_isTraceNear : ByteArray := prog_14_method_66_code
def yX12_isTraceNear : MethodName := ⟨RX12, "isTraceNear", "(III)Z"⟩
abbrev cX12_tracesNear : ByteArray := prog_14_method_67_code
def yX12_tracesNear : MethodName := ⟨RX12, "tracesNear", "(II)I"⟩
abbrev cX12_isInside : ByteArray := prog_14_method_68_code
def yX12_isInside : MethodName := ⟨RX12, "isInside", "(I)Z"⟩
abbrev cX12_turn : ByteArray := prog_14_method_69_code
def yX12_turn : MethodName := ⟨RX12, "turn", "(I)Z"⟩
abbrev cX12_crowd : ByteArray := prog_14_method_70_code
def yX12_crowd : MethodName := ⟨RX12, "crowd", "()I"⟩
abbrev cX12_press : ByteArray := prog_14_method_71_code
def yX12_press : MethodName := ⟨RX12, "press", "(II)I"⟩
abbrev cX12_reach : ByteArray := prog_14_method_72_code
def yX12_reach : MethodName := ⟨RX12, "reach", "(I)V"⟩
abbrev cX12_isBeside : ByteArray := prog_14_method_73_code
def yX12_isBeside : MethodName := ⟨RX12, "isBeside", "(I)Z"⟩
abbrev cX12_isWall : ByteArray := prog_14_method_74_code
def yX12_isWall : MethodName := ⟨RX12, "isWall", "(I)Z"⟩
abbrev cX12_cutOf : ByteArray := prog_14_method_75_code
def yX12_cutOf : MethodName := ⟨RX12, "cutOf", "(II)I"⟩
abbrev cX12_cut : ByteArray := prog_14_method_76_code
def yX12_cut : MethodName := ⟨RX12, "cut", "(II)I"⟩
abbrev cX12_isAhead : ByteArray := prog_14_method_77_code
def yX12_isAhead : MethodName := ⟨RX12, "isAhead", "(II)Z"⟩
abbrev cX12_bars : ByteArray := prog_14_method_78_code
def yX12_bars : MethodName := ⟨RX12, "bars", "(I)I"⟩
abbrev cX12_goOn : ByteArray := prog_14_method_79_code
def yX12_goOn : MethodName := ⟨RX12, "goOn", "(IIII)Z"⟩
abbrev cX12_isPlainFrom : ByteArray := prog_14_method_80_code
def yX12_isPlainFrom : MethodName := ⟨RX12, "isPlainFrom", "(III)Z"⟩
abbrev cX12_findAll : ByteArray := prog_14_method_81_code
def yX12_findAll : MethodName := ⟨RX12, "findAll", "(II)Z"⟩
abbrev cX12_together : ByteArray := prog_14_method_82_code
def yX12_together : MethodName := ⟨RX12, "together", "(I)I"⟩
abbrev cX12_lengthOf : ByteArray := prog_14_method_83_code
def yX12_lengthOf : MethodName := ⟨RX12, "lengthOf", "(I)I"⟩
abbrev cX12_about : ByteArray := prog_14_method_84_code
def yX12_about : MethodName := ⟨RX12, "about", "(II)I"⟩
abbrev cX12_isStretched : ByteArray := prog_14_method_85_code
def yX12_isStretched : MethodName := ⟨RX12, "isStretched", "(I)Z"⟩
abbrev cX12_wayFrom : ByteArray := prog_14_method_86_code
def yX12_wayFrom : MethodName := ⟨RX12, "wayFrom", "(II)I"⟩
abbrev cX12_isRoom : ByteArray := prog_14_method_87_code
def yX12_isRoom : MethodName := ⟨RX12, "isRoom", "(II)Z"⟩
abbrev cX12_bulge : ByteArray := prog_14_method_88_code
def yX12_bulge : MethodName := ⟨RX12, "bulge", "(IIII)Z"⟩
abbrev cX12_stretched : ByteArray := prog_14_method_89_code
def yX12_stretched : MethodName := ⟨RX12, "stretched", "(II)I"⟩
abbrev cX12_stretch : ByteArray := prog_14_method_90_code
def yX12_stretch : MethodName := ⟨RX12, "stretch", "(II)I"⟩
abbrev cX12_span : ByteArray := prog_14_method_91_code
def yX12_span : MethodName := ⟨RX12, "span", "(I)I"⟩
abbrev cX12_equal : ByteArray := prog_14_method_92_code
def yX12_equal : MethodName := ⟨RX12, "equal", "(II)I"⟩
abbrev cX12_spread : ByteArray := prog_14_method_93_code
def yX12_spread : MethodName := ⟨RX12, "spread", "(II)V"⟩
abbrev cX12_parts : ByteArray := prog_14_method_94_code
def yX12_parts : MethodName := ⟨RX12, "parts", "(IIIZ)I"⟩
abbrev cX12_mingle : ByteArray := prog_14_method_95_code
def yX12_mingle : MethodName := ⟨RX12, "mingle", "(II)Z"⟩
abbrev cX12_plane : ByteArray := prog_14_method_96_code
def yX12_plane : MethodName := ⟨RX12, "plane", "(III)I"⟩
abbrev cX12_spokes : ByteArray := prog_14_method_97_code
def yX12_spokes : MethodName := ⟨RX12, "spokes", "(II)I"⟩
abbrev cX12_back : ByteArray := prog_14_method_98_code
def yX12_back : MethodName := ⟨RX12, "back", "(III)I"⟩
abbrev cX12_strike : ByteArray := prog_14_method_99_code
def yX12_strike : MethodName := ⟨RX12, "strike", "(IIIII)V"⟩
abbrev cX12_isFirstThere : ByteArray := prog_14_method_100_code
def yX12_isFirstThere : MethodName := ⟨RX12, "isFirstThere", "(II)Z"⟩
abbrev cX12_findWander : ByteArray := prog_14_method_101_code
def yX12_findWander : MethodName := ⟨RX12, "findWander", "(II)V"⟩
abbrev cX12_wander : ByteArray := prog_14_method_102_code
def yX12_wander : MethodName := ⟨RX12, "wander", "(III)I"⟩
abbrev cX12_worst : ByteArray := prog_14_method_103_code
def yX12_worst : MethodName := ⟨RX12, "worst", "(II)I"⟩
abbrev cX12_layWith : ByteArray := prog_14_method_104_code
def yX12_layWith : MethodName := ⟨RX12, "layWith", "(II)Z"⟩
abbrev cX12_ripSome : ByteArray := prog_14_method_105_code
def yX12_ripSome : MethodName := ⟨RX12, "ripSome", "(I)V"⟩
abbrev cX12_movePin : ByteArray := prog_14_method_106_code
def yX12_movePin : MethodName := ⟨RX12, "movePin", "(III)V"⟩
abbrev cX12_late : ByteArray := prog_14_method_107_code
def yX12_late : MethodName := ⟨RX12, "late", "(IIIII)I"⟩
abbrev cX12_find : ByteArray := prog_14_method_108_code
def yX12_find : MethodName := ⟨RX12, "find", "(I)I"⟩
abbrev cX12_unite : ByteArray := prog_14_method_109_code
def yX12_unite : MethodName := ⟨RX12, "unite", "(II)V"⟩
abbrev cX12_uniteAll : ByteArray := prog_14_method_110_code
def yX12_uniteAll : MethodName := ⟨RX12, "uniteAll", "()V"⟩
abbrev cX12_areShort : ByteArray := prog_14_method_111_code
def yX12_areShort : MethodName := ⟨RX12, "areShort", "(II)Z"⟩
abbrev cX12_netlist : ByteArray := prog_14_method_112_code
def yX12_netlist : MethodName := ⟨RX12, "netlist", "(I)I"⟩
abbrev cX12_isAlone : ByteArray := prog_14_method_113_code
def yX12_isAlone : MethodName := ⟨RX12, "isAlone", "(II)Z"⟩
abbrev cX12_test : ByteArray := prog_14_method_114_code
def yX12_test : MethodName := ⟨RX12, "test", "(I)I"⟩
abbrev cX12_slow : ByteArray := prog_14_method_115_code
def yX12_slow : MethodName := ⟨RX12, "slow", "(II)Z"⟩
abbrev cX12_delayed : ByteArray := prog_14_method_116_code
def yX12_delayed : MethodName := ⟨RX12, "delayed", "(II)I"⟩
abbrev cX12_delayOf : ByteArray := prog_14_method_117_code
def yX12_delayOf : MethodName := ⟨RX12, "delayOf", "(I)I"⟩
abbrev cX12_delay : ByteArray := prog_14_method_118_code
def yX12_delay : MethodName := ⟨RX12, "delay", "(I)I"⟩
abbrev cX12_isBy : ByteArray := prog_14_method_119_code
def yX12_isBy : MethodName := ⟨RX12, "isBy", "(II)Z"⟩
abbrev cX12_pair : ByteArray := prog_14_method_120_code
def yX12_pair : MethodName := ⟨RX12, "pair", "(III)I"⟩
abbrev cX12_byAll : ByteArray := prog_14_method_121_code
def yX12_byAll : MethodName := ⟨RX12, "byAll", "(II)I"⟩
abbrev cX12_longest : ByteArray := prog_14_method_122_code
def yX12_longest : MethodName := ⟨RX12, "longest", "(II)I"⟩
abbrev cX12_away : ByteArray := prog_14_method_123_code
def yX12_away : MethodName := ⟨RX12, "away", "(II)I"⟩
abbrev cX12_keepNow : ByteArray := prog_14_method_124_code
def yX12_keepNow : MethodName := ⟨RX12, "keepNow", "()V"⟩
abbrev cX12_bringNow : ByteArray := prog_14_method_125_code
def yX12_bringNow : MethodName := ⟨RX12, "bringNow", "()V"⟩
abbrev cX12_lengths : ByteArray := prog_14_method_126_code
def yX12_lengths : MethodName := ⟨RX12, "lengths", "(Z)I"⟩
abbrev cX12_beside : ByteArray := prog_14_method_127_code
def yX12_beside : MethodName := ⟨RX12, "beside", "(III)I"⟩
abbrev cX12_besideOrder : ByteArray := prog_14_method_128_code
def yX12_besideOrder : MethodName := ⟨RX12, "besideOrder", "(I)I"⟩
abbrev cX12_besidePress : ByteArray := prog_14_method_129_code
def yX12_besidePress : MethodName := ⟨RX12, "besidePress", "(III)I"⟩
abbrev cX12_why : ByteArray := prog_14_method_130_code
def yX12_why : MethodName := ⟨RX12, "why", "(I)I"⟩
abbrev cX12_wasThere : ByteArray := prog_14_method_131_code
def yX12_wasThere : MethodName := ⟨RX12, "wasThere", "(II)Z"⟩
abbrev cX12_steady : ByteArray := prog_14_method_132_code
def yX12_steady : MethodName := ⟨RX12, "steady", "()Z"⟩
abbrev cX12_room : ByteArray := prog_14_method_133_code
def yX12_room : MethodName := ⟨RX12, "room", "(III)I"⟩
abbrev cX12_panel : ByteArray := prog_14_method_134_code
def yX12_panel : MethodName := ⟨RX12, "panel", "(IIII)I"⟩
abbrev cX12_unwire : ByteArray := prog_14_method_135_code
def yX12_unwire : MethodName := ⟨RX12, "unwire", "(I)Z"⟩
abbrev cX12_count : ByteArray := prog_14_method_136_code
def yX12_count : MethodName := ⟨RX12, "count", "(I)I"⟩
def RJx145de : String := "java/io/Serializable"
def TJx145de : u_T := fun k => match k with
  | _ => ("", "", "", false)
def tyJx145de : Nat → FieldType := fun k => match k with
  | _ => .int
theorem nmJx145de : ∀ a, a < 0 → ∀ b, b < 0 → a ≠ b → (TJx145de a).2.1 ≠ (TJx145de b).2.1 := by decide +kernel
theorem tyJx145de_ok : ∀ k, k < 0 → parseFieldDescriptor (TJx145de k).2.2.1 = some (tyJx145de k) := by decide +kernel
def RJxb160c : String := "java/lang/Comparable"
def TJxb160c : u_T := fun k => match k with
  | _ => ("", "", "", false)
def tyJxb160c : Nat → FieldType := fun k => match k with
  | _ => .int
theorem nmJxb160c : ∀ a, a < 0 → ∀ b, b < 0 → a ≠ b → (TJxb160c a).2.1 ≠ (TJxb160c b).2.1 := by decide +kernel
theorem tyJxb160c_ok : ∀ k, k < 0 → parseFieldDescriptor (TJxb160c k).2.2.1 = some (tyJxb160c k) := by decide +kernel
def RJ6 : String := "java/lang/Integer"
def TJ6 : u_T := fun k => match k with
  | _ => ("", "", "", false)
def tyJ6 : Nat → FieldType := fun k => match k with
  | _ => .int
theorem nmJ6 : ∀ a, a < 0 → ∀ b, b < 0 → a ≠ b → (TJ6 a).2.1 ≠ (TJ6 b).2.1 := by decide +kernel
theorem tyJ6_ok : ∀ k, k < 0 → parseFieldDescriptor (TJ6 k).2.2.1 = some (tyJ6 k) := by decide +kernel
abbrev cJ6_numberOfTrailingZeros_0f7a4 : ByteArray := prog_18_method_48_code
def yJ6_numberOfTrailingZeros_0f7a4 : MethodName := ⟨RJ6, "numberOfTrailingZeros", "(I)I"⟩
abbrev cJ6_bitCount_0f7a4 : ByteArray := prog_18_method_49_code
def yJ6_bitCount_0f7a4 : MethodName := ⟨RJ6, "bitCount", "(I)I"⟩
abbrev cJ6_reverse_0f7a4 : ByteArray := prog_18_method_52_code
def yJ6_reverse_0f7a4 : MethodName := ⟨RJ6, "reverse", "(I)I"⟩
abbrev cJ6_reverseBytes_0f7a4 : ByteArray := prog_18_method_57_code
def yJ6_reverseBytes_0f7a4 : MethodName := ⟨RJ6, "reverseBytes", "(I)I"⟩
def RJ9 : String := "java/lang/Math"
def TJ9 : u_T := fun k => match k with
  | _ => ("", "", "", false)
def tyJ9 : Nat → FieldType := fun k => match k with
  | _ => .int
theorem nmJ9 : ∀ a, a < 0 → ∀ b, b < 0 → a ≠ b → (TJ9 a).2.1 ≠ (TJ9 b).2.1 := by decide +kernel
theorem tyJ9_ok : ∀ k, k < 0 → parseFieldDescriptor (TJ9 k).2.2.1 = some (tyJ9 k) := by decide +kernel
abbrev cJ9_abs_0f7a4 : ByteArray := prog_19_method_59_code
def yJ9_abs_0f7a4 : MethodName := ⟨RJ9, "abs", "(I)I"⟩
abbrev cJ9_max_7cf53 : ByteArray := prog_19_method_65_code
def yJ9_max_7cf53 : MethodName := ⟨RJ9, "max", "(II)I"⟩
abbrev cJ9_min_7cf53 : ByteArray := prog_19_method_69_code
def yJ9_min_7cf53 : MethodName := ⟨RJ9, "min", "(II)I"⟩
def RJxd2413 : String := "java/lang/Number"
def TJxd2413 : u_T := fun k => match k with
  | _ => ("", "", "", false)
def tyJxd2413 : Nat → FieldType := fun k => match k with
  | _ => .int
theorem nmJxd2413 : ∀ a, a < 0 → ∀ b, b < 0 → a ≠ b → (TJxd2413 a).2.1 ≠ (TJxd2413 b).2.1 := by decide +kernel
theorem tyJxd2413_ok : ∀ k, k < 0 → parseFieldDescriptor (TJxd2413 k).2.2.1 = some (tyJxd2413 k) := by decide +kernel
def RJ0 : String := "java/lang/String"
def TJ0 : u_T := fun k => match k with
  | _ => ("", "", "", false)
def tyJ0 : Nat → FieldType := fun k => match k with
  | _ => .int
theorem nmJ0 : ∀ a, a < 0 → ∀ b, b < 0 → a ≠ b → (TJ0 a).2.1 ≠ (TJ0 b).2.1 := by decide +kernel
theorem tyJ0_ok : ∀ k, k < 0 → parseFieldDescriptor (TJ0 k).2.2.1 = some (tyJ0 k) := by decide +kernel
def RJ10 : String := "java/lang/System"
def TJ10 : u_T := fun k => match k with
  | _ => ("", "", "", false)
def tyJ10 : Nat → FieldType := fun k => match k with
  | _ => .int
theorem nmJ10 : ∀ a, a < 0 → ∀ b, b < 0 → a ≠ b → (TJ10 a).2.1 ≠ (TJ10 b).2.1 := by decide +kernel
theorem tyJ10_ok : ∀ k, k < 0 → parseFieldDescriptor (TJ10 k).2.2.1 = some (tyJ10 k) := by decide +kernel
def RJxfd54e : String := "java/lang/constant/Constable"
def TJxfd54e : u_T := fun k => match k with
  | _ => ("", "", "", false)
def tyJxfd54e : Nat → FieldType := fun k => match k with
  | _ => .int
theorem nmJxfd54e : ∀ a, a < 0 → ∀ b, b < 0 → a ≠ b → (TJxfd54e a).2.1 ≠ (TJxfd54e b).2.1 := by decide +kernel
theorem tyJxfd54e_ok : ∀ k, k < 0 → parseFieldDescriptor (TJxfd54e k).2.2.1 = some (tyJxfd54e k) := by decide +kernel
def RJx3cf43 : String := "java/lang/constant/ConstantDesc"
def TJx3cf43 : u_T := fun k => match k with
  | _ => ("", "", "", false)
def tyJx3cf43 : Nat → FieldType := fun k => match k with
  | _ => .int
theorem nmJx3cf43 : ∀ a, a < 0 → ∀ b, b < 0 → a ≠ b → (TJx3cf43 a).2.1 ≠ (TJx3cf43 b).2.1 := by decide +kernel
theorem tyJx3cf43_ok : ∀ k, k < 0 → parseFieldDescriptor (TJx3cf43 k).2.2.1 = some (tyJx3cf43 k) := by decide +kernel
def RJ7 : String := "java/util/Arrays"
def TJ7 : u_T := fun k => match k with
  | _ => ("", "", "", false)
def tyJ7 : Nat → FieldType := fun k => match k with
  | _ => .int
theorem nmJ7 : ∀ a, a < 0 → ∀ b, b < 0 → a ≠ b → (TJ7 a).2.1 ≠ (TJ7 b).2.1 := by decide +kernel
theorem tyJ7_ok : ∀ k, k < 0 → parseFieldDescriptor (TJ7 k).2.2.1 = some (tyJ7 k) := by decide +kernel
abbrev cJ7_rangeCheck_23922 : ByteArray := prog_27_method_30_code
def yJ7_rangeCheck_23922 : MethodName := ⟨RJ7, "rangeCheck", "(III)V"⟩
abbrev cJ7_fill_53178 : ByteArray := prog_27_method_103_code
def yJ7_fill_53178 : MethodName := ⟨RJ7, "fill", "([II)V"⟩
abbrev cJ7_fill_fda19 : ByteArray := prog_27_method_104_code
def yJ7_fill_fda19 : MethodName := ⟨RJ7, "fill", "([IIII)V"⟩
def RL : String := "CopperBoardLaw"
abbrev cL_cell : ByteArray := method_2_code
def yL_cell : MethodName := ⟨RL, "cell", "([II)I"⟩
abbrev cL_told : ByteArray := method_3_code
def yL_told : MethodName := ⟨RL, "told", "(LCopperBoard;II[J)I"⟩
abbrev cL_law : ByteArray := code
def yL_law : MethodName := ⟨RL, "law", "([I)Z"⟩
end
section
/-! the tables: classes, methods, links, by number (written by wip/whole/gen03.py) -/
def CN : Nat → String := fun k => match k with
  | 0 => "CopperBoard$Checks"
  | 1 => "CopperBoard$Chooser"
  | 2 => "CopperBoard$Grid"
  | 3 => "CopperBoard$Nets"
  | 4 => "CopperBoard$Planes"
  | 5 => "CopperBoard$Presser"
  | 6 => "CopperBoard$Room"
  | 7 => "CopperBoard$Router"
  | 8 => "CopperBoard$Tape"
  | 9 => "CopperBoard$Trail"
  | 10 => "CopperBoard$Trial"
  | 11 => "CopperBoard"
  | 12 => "CopperBoardModel"
  | 13 => "CopperBoardLaw"
  | 14 => "java/lang/Integer"
  | 15 => "java/lang/Math"
  | _ => "java/util/Arrays"
abbrev cls : List vw_C := [(RX0, TX0, 9), (RX1, TX1, 4), (RX2, TX2, 9), (RX3, TX3, 15), (RX4, TX4, 5), (RX5, TX5, 6), (RX6, TX6, 10), (RX7, TX7, 15), (RX8, TX8, 6), (RX9, TX9, 6), (RX10, TX10, 11), (RX11, TX11, 11), (RX12, TX12, 54)]
def k_ty : Nat → Nat → FieldType := fun k => match k with
  | 0 => tyX0
  | 1 => tyX1
  | 2 => tyX2
  | 3 => tyX3
  | 4 => tyX4
  | 5 => tyX5
  | 6 => tyX6
  | 7 => tyX7
  | 8 => tyX8
  | 9 => tyX9
  | 10 => tyX10
  | 11 => tyX11
  | _ => tyX12
def k_nf : Nat → Nat := fun k => match k with
  | 0 => 9
  | 1 => 4
  | 2 => 9
  | 3 => 15
  | 4 => 5
  | 5 => 6
  | 6 => 10
  | 7 => 15
  | 8 => 6
  | 9 => 6
  | 10 => 11
  | 11 => 11
  | _ => 54
def MTL_0 : List (MethodName × ByteArray × Nat × Option FieldType) := [(yX0_init, cX0_init, 3, none),
  (yX0_shiftVias, cX0_shiftVias, 6, none),
  (yX0_judgeVia, cX0_judgeVia, 6, none),
  (yX0_worstShift, cX0_worstShift, 8, some .int),
  (yX0_joinAll, cX0_joinAll, 2, none),
  (yX0_joinFrom, cX0_joinFrom, 8, some .int),
  (yX0_allMovesAt, cX0_allMovesAt, 4, some .int),
  (yX0_joinedPairs, cX0_joinedPairs, 4, some .int),
  (yX0_areJoined, cX0_areJoined, 3, some .boolean),
  (yX0_openParts, cX0_openParts, 4, some .int),
  (yX0_isNewPart, cX0_isNewPart, 4, some .boolean),
  (yX0_reachable, cX0_reachable, 5, some .int),
  (yX0_copperBeside, cX0_copperBeside, 5, some .int),
  (yX0_delayOf, cX0_delayOf, 5, some .int),
  (yX0_isBeside, cX0_isBeside, 4, some .boolean),
  (yX0_cellsBeside, cX0_cellsBeside, 5, some .int),
  (yX0_turnsAway, cX0_turnsAway, 8, some .int),
  (yX1_init, cX1_init, 5, none),
  (yX1_cutOf, cX1_cutOf, 8, some .int),
  (yX1_isWall, cX1_isWall, 4, some .boolean),
  (yX1_setOf, cX1_setOf, 1, some .int),
  (yX1_othersWithTraces, cX1_othersWithTraces, 4, some .int),
  (yX1_fewestBars, cX1_fewestBars, 7, some .int),
  (yX1_whyVias, cX1_whyVias, 2, some .int),
  (yX1_fewestByRows, cX1_fewestByRows, 7, some .int),
  (yX1_layFlat, cX1_layFlat, 3, some .boolean),
  (yX1_moveLate, cX1_moveLate, 9, some .int),
  (yX1_layWith, cX1_layWith, 5, some .boolean),
  (yX2_init, cX2_init, 8, none),
  (yX2_cellAt, cX2_cellAt, 4, some .int),
  (yX2_allLayers, cX2_allLayers, 1, some .int),
  (yX3_init, cX3_init, 2, none),
  (yX3_addSort, cX3_addSort, 2, some .int),
  (yX3_addNet, cX3_addNet, 2, some .int),
  (yX3_setting, cX3_setting, 3, some .int),
  (yX3_hasPin, cX3_hasPin, 4, some .boolean),
  (yX3_pinCell, cX3_pinCell, 3, some .int),
  (yX3_addPin, cX3_addPin, 4, some .int),
  (yX3_movePin, cX3_movePin, 4, none),
  (yX3_close, cX3_close, 8, none)]
def MTL_1 : List (MethodName × ByteArray × Nat × Option FieldType) := [(yX3_addWire, cX3_addWire, 7, none),
  (yX3_addTrace, cX3_addTrace, 4, some .int),
  (yX3_join, cX3_join, 7, some .int),
  (yX3_dropTrace, cX3_dropTrace, 5, none),
  (yX3_removeTraces, cX3_removeTraces, 3, none),
  (yX3_removeAllTraces, cX3_removeAllTraces, 1, none),
  (yX3_removeWires, cX3_removeWires, 2, none),
  (yX3_settle, cX3_settle, 3, none),
  (yX3_hasTraces, cX3_hasTraces, 2, some .boolean),
  (yX3_hasWires, cX3_hasWires, 2, some .boolean),
  (yX3_hasHoles, cX3_hasHoles, 2, some .boolean),
  (yX3_anyMove, cX3_anyMove, 5, some .boolean),
  (yX3_copperAt, cX3_copperAt, 2, some .int),
  (yX3_movesAt, cX3_movesAt, 3, some .int),
  (yX3_lengthOf, cX3_lengthOf, 4, some .int),
  (yX3_viasOf, cX3_viasOf, 4, some .int),
  (yX3_cellsOf, cX3_cellsOf, 4, some .int),
  (yX3_saveTraces, cX3_saveTraces, 1, none),
  (yX3_restoreTraces, cX3_restoreTraces, 1, none),
  (yX3_isAsSaved, cX3_isAsSaved, 2, some .boolean),
  (yX4_init, cX4_init, 4, none),
  (yX4_figure, cX4_figure, 6, some .int),
  (yX4_partPlane, cX4_partPlane, 4, none),
  (yX4_hasOwn, cX4_hasOwn, 3, some .boolean),
  (yX4_necks, cX4_necks, 5, some .int),
  (yX4_spokesAt, cX4_spokesAt, 6, some .int),
  (yX4_withoutReturn, cX4_withoutReturn, 8, some .int),
  (yX5_init, cX5_init, 5, none),
  (yX5_layInOrder, cX5_layInOrder, 4, some .int),
  (yX5_pressAll, cX5_pressAll, 4, some .int),
  (yX5_layTurn, cX5_layTurn, 5, some .boolean),
  (yX5_warmCrowded, cX5_warmCrowded, 4, some .boolean),
  (yX5_orderFigure, cX5_orderFigure, 3, some .int),
  (yX5_pressFigure, cX5_pressFigure, 5, some .int),
  (yX5_withPins, cX5_withPins, 3, some .int),
  (yX5_wholeFigure, cX5_wholeFigure, 4, some .int),
  (yX6_init, cX6_init, 3, none),
  (yX6_look, cX6_look, 8, none),
  (yX6_partOthers, cX6_partOthers, 4, none),
  (yX6_spreadAll, cX6_spreadAll, 5, none)]
def MTL_2 : List (MethodName × ByteArray × Nat × Option FieldType) := [(yX6_spread, cX6_spread, 11, none),
  (yX6_mark, cX6_mark, 5, none),
  (yX6_markPlane, cX6_markPlane, 4, none),
  (yX6_isClear, cX6_isClear, 3, some .boolean),
  (yX6_flood, cX6_flood, 3, some .int),
  (yX6_floodMore, cX6_floodMore, 7, some .int),
  (yX6_lowestUnreachedPin, cX6_lowestUnreachedPin, 3, some .int),
  (yX6_joinsAllPins, cX6_joinsAllPins, 3, some .boolean),
  (yX7_init, cX7_init, 4, none),
  (yX7_layNet, cX7_layNet, 2, some .int),
  (yX7_tryCost, cX7_tryCost, 4, some .int),
  (yX7_layRows, cX7_layRows, 7, some .int),
  (yX7_markJoined, cX7_markJoined, 7, none),
  (yX7_search, cX7_search, 6, some .boolean),
  (yX7_comeFrom, cX7_comeFrom, 8, none),
  (yX7_bendFrom, cX7_bendFrom, 3, some .int),
  (yX7_offer, cX7_offer, 4, none),
  (yX7_takeLeast, cX7_takeLeast, 5, some .int),
  (yX7_walk, cX7_walk, 7, none),
  (yX7_laneBehind, cX7_laneBehind, 3, some .int),
  (yX7_firstMove, cX7_firstMove, 8, some .int),
  (yX8_init, cX8_init, 2, none),
  (yX8_bytesIn, cX8_bytesIn, 3, some .int),
  (yX8_take, cX8_take, 4, none),
  (yX8_scan, cX8_scan, 2, some .int),
  (yX8_readSetting, cX8_readSetting, 2, some .boolean),
  (yX8_kindHere, cX8_kindHere, 2, some .int),
  (yX8_digitHere, cX8_digitHere, 1, some .int),
  (yX8_skipBlanks, cX8_skipBlanks, 1, none),
  (yX8_readNumber, cX8_readNumber, 4, some .boolean),
  (yX8_readLayers, cX8_readLayers, 4, some .boolean),
  (yX9_init, cX9_init, 4, none),
  (yX9_canFollow, cX9_canFollow, 2, some .boolean),
  (yX9_follow, cX9_follow, 7, none),
  (yX9_bendOut, cX9_bendOut, 6, some .int),
  (yX9_goBeside, cX9_goBeside, 8, some .boolean),
  (yX9_isOpen, cX9_isOpen, 3, some .boolean),
  (yX9_longestBeside, cX9_longestBeside, 6, some .int),
  (yX9_touches, cX9_touches, 5, some .boolean),
  (yX10_init, cX10_init, 6, none)]
def MTL_3 : List (MethodName × ByteArray × Nat × Option FieldType) := [(yX10_tryWholly, cX10_tryWholly, 3, some .int),
  (yX10_openCells, cX10_openCells, 5, some .int),
  (yX10_findWays, cX10_findWays, 5, some .boolean),
  (yX10_extend, cX10_extend, 12, some .boolean),
  (yX10_laterCanJoin, cX10_laterCanJoin, 6, some .boolean),
  (yX10_openAt, cX10_openAt, 6, some .int),
  (yX10_widened, cX10_widened, 5, some .int),
  (yX10_oneMove, cX10_oneMove, 3, some .int),
  (yX10_canReach, cX10_canReach, 7, some .boolean),
  (yX11_init, cX11_init, 4, none),
  (yX11_feed, cX11_feed, 7, some .int),
  (yX11_end, cX11_end, 2, some .boolean),
  (yX11_fault, cX11_fault, 1, some .int),
  (yX11_sort, cX11_sort, 1, some .int),
  (yX11_told, cX11_told, 3, some .int),
  (yX11_net, cX11_net, 2, some .int),
  (yX11_pin, cX11_pin, 6, some .int),
  (yX11_keep, cX11_keep, 7, some .boolean),
  (yX11_wire, cX11_wire, 10, some .boolean),
  (yX11_hole, cX11_hole, 6, some .boolean),
  (yX11_copper, cX11_copper, 5, some .int),
  (yX11_free, cX11_free, 6, some .int),
  (yX11_lay, cX11_lay, 2, some .int),
  (yX11_cost, cX11_cost, 3, some .int),
  (yX11_rip, cX11_rip, 2, some .boolean),
  (yX11_rank, cX11_rank, 3, some .boolean),
  (yX11_order, cX11_order, 1, some .int),
  (yX11_press, cX11_press, 4, some .int),
  (yX11_cut, cX11_cut, 3, some .int),
  (yX11_bars, cX11_bars, 2, some .int),
  (yX11_together, cX11_together, 2, some .int),
  (yX11_about, cX11_about, 3, some .int),
  (yX11_stretch, cX11_stretch, 3, some .int),
  (yX11_span, cX11_span, 3, some .int),
  (yX11_equal, cX11_equal, 7, some .int),
  (yX11_plane, cX11_plane, 4, some .int),
  (yX11_spokes, cX11_spokes, 3, some .int),
  (yX11_back, cX11_back, 4, some .int),
  (yX11_wander, cX11_wander, 4, some .int),
  (yX11_worst, cX11_worst, 3, some .int)]
def MTL_4 : List (MethodName × ByteArray × Nat × Option FieldType) := [(yX11_late, cX11_late, 7, some .int),
  (yX11_netlist, cX11_netlist, 2, some .int),
  (yX11_test, cX11_test, 2, some .int),
  (yX11_slow, cX11_slow, 3, some .boolean),
  (yX11_delay, cX11_delay, 2, some .int),
  (yX11_pair, cX11_pair, 4, some .int),
  (yX11_beside, cX11_beside, 5, some .int),
  (yX11_why, cX11_why, 2, some .int),
  (yX11_steady, cX11_steady, 2, some .boolean),
  (yX11_panel, cX11_panel, 7, some .int),
  (yX11_unwire, cX11_unwire, 2, some .boolean),
  (yX11_count, cX11_count, 2, some .int),
  (yX11_within, cX11_within, 3, some .int),
  (yX11_isNet, cX11_isNet, 2, some .boolean),
  (yX11_isLayer, cX11_isLayer, 2, some .boolean),
  (yX11_areNets, cX11_areNets, 2, some .boolean),
  (yX11_arePressing, cX11_arePressing, 2, some .boolean),
  (yX11_fitting, cX11_fitting, 4, some .int),
  (yX11_splitSheet, cX11_splitSheet, 13, some .int),
  (yX12_in, cX12_in, 3, some .boolean),
  (yX12_within, cX12_within, 3, some .int),
  (yX12_init, cX12_init, 4, none),
  (yX12_thrown, cX12_thrown, 1, some .int),
  (yX12_byteOf, cX12_byteOf, 7, some .int),
  (yX12_feed, cX12_feed, 9, some .int),
  (yX12_end, cX12_end, 2, some .boolean),
  (yX12_here, cX12_here, 1, some .int),
  (yX12_look, cX12_look, 1, some .int),
  (yX12_bad, cX12_bad, 1, none),
  (yX12_isDigit, cX12_isDigit, 1, some .boolean),
  (yX12_number, cX12_number, 4, some .int),
  (yX12_letterAt, cX12_letterAt, 2, some .int),
  (yX12_setting, cX12_setting, 4, none),
  (yX12_readLayers, cX12_readLayers, 4, none),
  (yX12_readSort, cX12_readSort, 2, some .int),
  (yX12_fault, cX12_fault, 1, some .int),
  (yX12_sort, cX12_sort, 1, some .int),
  (yX12_told, cX12_told, 3, some .int),
  (yX12_isNet, cX12_isNet, 2, some .boolean),
  (yX12_isCell, cX12_isCell, 4, some .boolean)]
def MTL_5 : List (MethodName × ByteArray × Nat × Option FieldType) := [(yX12_cell, cX12_cell, 3, some .int),
  (yX12_xOf, cX12_xOf, 1, some .int),
  (yX12_yOf, cX12_yOf, 1, some .int),
  (yX12_layerOf, cX12_layerOf, 1, some .int),
  (yX12_moved, cX12_moved, 6, some .int),
  (yX12_net, cX12_net, 2, some .int),
  (yX12_pinOn, cX12_pinOn, 4, some .int),
  (yX12_pin, cX12_pin, 5, some .int),
  (yX12_keep, cX12_keep, 9, some .boolean),
  (yX12_hasWire, cX12_hasWire, 5, some .boolean),
  (yX12_addWire, cX12_addWire, 6, none),
  (yX12_wire, cX12_wire, 10, some .boolean),
  (yX12_hole, cX12_hole, 5, some .boolean),
  (yX12_has, cX12_has, 3, some .boolean),
  (yX12_copper, cX12_copper, 6, some .int),
  (yX12_counts, cX12_counts, 4, some .boolean),
  (yX12_apart, cX12_apart, 3, some .int),
  (yX12_isNear, cX12_isNear, 6, some .boolean),
  (yX12_isFree, cX12_isFree, 5, some .boolean),
  (yX12_free, cX12_free, 5, some .int),
  (yX12_paint, cX12_paint, 3, none),
  (yX12_takeOff, cX12_takeOff, 3, none),
  (yX12_putBack, cX12_putBack, 3, none),
  (yX12_addTrace, cX12_addTrace, 4, none),
  (yX12_takeAllOff, cX12_takeAllOff, 3, none),
  (yX12_ripAll, cX12_ripAll, 2, none),
  (yX12_putAllBack, cX12_putAllBack, 3, none),
  (yX12_joins, cX12_joins, 4, some .boolean),
  (yX12_join, cX12_join, 5, none),
  (yX12_costOf, cX12_costOf, 7, some .int),
  (yX12_bestFrom, cX12_bestFrom, 8, some .int),
  (yX12_relax, cX12_relax, 6, some .boolean),
  (yX12_weigh, cX12_weigh, 5, none),
  (yX12_leads, cX12_leads, 7, some .boolean),
  (yX12_go, cX12_go, 8, some .int),
  (yX12_layNet, cX12_layNet, 5, some .int),
  (yX12_plainly, cX12_plainly, 3, none),
  (yX12_lay, cX12_lay, 2, some .int),
  (yX12_tried, cX12_tried, 3, some .int),
  (yX12_cost, cX12_cost, 4, some .int)]
def MTL_6 : List (MethodName × ByteArray × Nat × Option FieldType) := [(yX12_rip, cX12_rip, 2, some .boolean),
  (yX12_rank, cX12_rank, 3, some .boolean),
  (yX12_order, cX12_order, 4, some .int),
  (yX12_hasTrace, cX12_hasTrace, 3, some .boolean),
  (yX12_isTraceNear, cX12_isTraceNear, 6, some .boolean),
  (yX12_tracesNear, cX12_tracesNear, 5, some .int),
  (yX12_isInside, cX12_isInside, 2, some .boolean),
  (yX12_turn, cX12_turn, 4, some .boolean),
  (yX12_crowd, cX12_crowd, 5, some .int),
  (yX12_press, cX12_press, 6, some .int),
  (yX12_reach, cX12_reach, 4, none),
  (yX12_isBeside, cX12_isBeside, 4, some .boolean),
  (yX12_isWall, cX12_isWall, 2, some .boolean),
  (yX12_cutOf, cX12_cutOf, 8, some .int),
  (yX12_cut, cX12_cut, 4, some .int),
  (yX12_isAhead, cX12_isAhead, 4, some .boolean),
  (yX12_bars, cX12_bars, 4, some .int),
  (yX12_goOn, cX12_goOn, 10, some .boolean),
  (yX12_isPlainFrom, cX12_isPlainFrom, 6, some .boolean),
  (yX12_findAll, cX12_findAll, 4, some .boolean),
  (yX12_together, cX12_together, 3, some .int),
  (yX12_lengthOf, cX12_lengthOf, 4, some .int),
  (yX12_about, cX12_about, 5, some .int),
  (yX12_isStretched, cX12_isStretched, 2, some .boolean),
  (yX12_wayFrom, cX12_wayFrom, 4, some .int),
  (yX12_isRoom, cX12_isRoom, 3, some .boolean),
  (yX12_bulge, cX12_bulge, 7, some .boolean),
  (yX12_stretched, cX12_stretched, 7, some .int),
  (yX12_stretch, cX12_stretch, 3, some .int),
  (yX12_span, cX12_span, 3, some .int),
  (yX12_equal, cX12_equal, 6, some .int),
  (yX12_spread, cX12_spread, 5, none),
  (yX12_parts, cX12_parts, 10, some .int),
  (yX12_mingle, cX12_mingle, 7, some .boolean),
  (yX12_plane, cX12_plane, 7, some .int),
  (yX12_spokes, cX12_spokes, 7, some .int),
  (yX12_back, cX12_back, 7, some .int),
  (yX12_strike, cX12_strike, 10, none),
  (yX12_isFirstThere, cX12_isFirstThere, 8, some .boolean),
  (yX12_findWander, cX12_findWander, 5, none)]
def MTL_7 : List (MethodName × ByteArray × Nat × Option FieldType) := [(yX12_wander, cX12_wander, 4, some .int),
  (yX12_worst, cX12_worst, 8, some .int),
  (yX12_layWith, cX12_layWith, 4, some .boolean),
  (yX12_ripSome, cX12_ripSome, 3, none),
  (yX12_movePin, cX12_movePin, 7, none),
  (yX12_late, cX12_late, 10, some .int),
  (yX12_find, cX12_find, 3, some .int),
  (yX12_unite, cX12_unite, 3, none),
  (yX12_uniteAll, cX12_uniteAll, 4, none),
  (yX12_areShort, cX12_areShort, 5, some .boolean),
  (yX12_netlist, cX12_netlist, 7, some .int),
  (yX12_isAlone, cX12_isAlone, 7, some .boolean),
  (yX12_test, cX12_test, 6, some .int),
  (yX12_slow, cX12_slow, 3, some .boolean),
  (yX12_delayed, cX12_delayed, 3, some .int),
  (yX12_delayOf, cX12_delayOf, 4, some .int),
  (yX12_delay, cX12_delay, 2, some .int),
  (yX12_isBy, cX12_isBy, 5, some .boolean),
  (yX12_pair, cX12_pair, 4, some .int),
  (yX12_byAll, cX12_byAll, 5, some .int),
  (yX12_longest, cX12_longest, 6, some .int),
  (yX12_away, cX12_away, 7, some .int),
  (yX12_keepNow, cX12_keepNow, 3, none),
  (yX12_bringNow, cX12_bringNow, 3, none),
  (yX12_lengths, cX12_lengths, 4, some .int),
  (yX12_beside, cX12_beside, 5, some .int),
  (yX12_besideOrder, cX12_besideOrder, 5, some .int),
  (yX12_besidePress, cX12_besidePress, 5, some .int),
  (yX12_why, cX12_why, 4, some .int),
  (yX12_wasThere, cX12_wasThere, 8, some .boolean),
  (yX12_steady, cX12_steady, 4, some .boolean),
  (yX12_room, cX12_room, 3, some .int),
  (yX12_panel, cX12_panel, 15, some .int),
  (yX12_unwire, cX12_unwire, 3, some .boolean),
  (yX12_count, cX12_count, 2, some .int),
  (yJ6_numberOfTrailingZeros_0f7a4, cJ6_numberOfTrailingZeros_0f7a4, 2, some .int),
  (yJ6_bitCount_0f7a4, cJ6_bitCount_0f7a4, 1, some .int),
  (yJ6_reverse_0f7a4, cJ6_reverse_0f7a4, 1, some .int),
  (yJ6_reverseBytes_0f7a4, cJ6_reverseBytes_0f7a4, 1, some .int),
  (yJ9_abs_0f7a4, cJ9_abs_0f7a4, 1, some .int)]
def MTL_8 : List (MethodName × ByteArray × Nat × Option FieldType) := [(yJ9_max_7cf53, cJ9_max_7cf53, 2, some .int),
  (yJ9_min_7cf53, cJ9_min_7cf53, 2, some .int),
  (yJ7_rangeCheck_23922, cJ7_rangeCheck_23922, 3, none),
  (yJ7_fill_53178, cJ7_fill_53178, 4, none),
  (yJ7_fill_fda19, cJ7_fill_fda19, 5, none),
  (yL_cell, cL_cell, 2, some .int)]
def MTL : List (MethodName × ByteArray × Nat × Option FieldType) := MTL_0 ++ MTL_1 ++ MTL_2 ++ MTL_3 ++ MTL_4 ++ MTL_5 ++ MTL_6 ++ MTL_7 ++ MTL_8
def MT (n : Nat) : MethodName × ByteArray × Nat × Option FieldType := MTL.getD n (yL_law, code, 0, none)
def TT : List Cond := lw_tbl.filter goodWord
theorem TT_good {w : Cond} (h : w ∈ TT) : goodWord w = true := (List.mem_filter.mp h).2
theorem TT_in {w : Cond} (h : w ∈ TT) : w ∈ lw_tbl := (List.mem_filter.mp h).1
def k_at (p : Nat) (w : Cond) : Bool := decide (lw_tbl[p]? = some w) && goodWord w
theorem k_at_in {p : Nat} {w : Cond} (h : k_at p w = true) : w ∈ TT := by
  simp only [k_at, Bool.and_eq_true, decide_eq_true_eq] at h
  exact List.mem_filter.mpr ⟨List.mem_of_getElem? h.1, h.2⟩
def k_MR_0 : List (Nat × Nat × Nat × Nat × Nat × Nat) := [(0, 571, 151, 1, 570, 9999), (1, 1231, 151, 1, 1229, 1230), (2, 1237, 151, 1, 1236, 42), (3, 1246, 151, 1, 1244, 1245), (4, 1279, 151, 1, 1277, 1278), (5, 1283, 151, 1, 1282, 45), (6, 1287, 151, 1, 1286, 46), (7, 1291, 151, 1, 1289, 1290), (8, 1295, 151, 1, 1294, 47), (9, 1299, 151, 1, 1297, 1298), (10, 1303, 151, 1, 1302, 48), (11, 1312, 151, 1, 1310, 1311), (12, 1317, 151, 1, 1315, 1316), (13, 1329, 151, 1, 1327, 1328), (14, 1341, 151, 1, 1340, 49), (15, 1337, 151, 1, 1335, 1336), (16, 1354, 151, 1, 1352, 1353), (17, 490, 148, 1, 489, 9999), (18, 1018, 148, 1, 1016, 1017), (19, 1027, 148, 1, 1026, 24), (20, 1045, 148, 0, 1044, 9999), (21, 1041, 148, 1, 1040, 25), (22, 1036, 148, 1, 1034, 1035), (23, 1386, 148, 1, 1384, 1385), (24, 1394, 148, 1, 1393, 53), (25, 1399, 148, 1, 1398, 54), (26, 1255, 148, 1, 1253, 1254), (27, 1268, 148, 1, 1267, 44), (28, 183, 141, 1, 182, 9999), (29, 747, 141, 1, 745, 746), (30, 771, 141, 1, 769, 770), (31, 285, 144, 1, 284, 9999), (32, 728, 144, 1, 726, 727), (33, 739, 144, 1, 737, 738), (34, 821, 144, 1, 819, 820), (35, 755, 144, 1, 753, 754), (36, 759, 144, 1, 757, 758), (37, 763, 144, 1, 761, 762), (38, 1260, 144, 1, 1258, 1259), (39, 775, 144, 1, 773, 774), (40, 786, 144, 1, 784, 785), (41, 931, 144, 1, 929, 930), (42, 790, 144, 1, 789, 7), (43, 1164, 144, 1, 1162, 1163), (44, 871, 144, 1, 869, 870), (45, 976, 144, 1, 974, 975), (46, 1428, 144, 1, 1426, 1427), (47, 1264, 144, 1, 1263, 43), (48, 955, 144, 1, 953, 954), (49, 1069, 144, 1, 1067, 1068), (50, 1390, 144, 1, 1388, 1389), (51, 959, 144, 1, 958, 21), (52, 804, 144, 1, 802, 803), (53, 892, 144, 1, 890, 891), (54, 1114, 144, 1, 1112, 1113), (55, 1119, 144, 1, 1117, 1118), (56, 1123, 144, 1, 1121, 1122), (57, 943, 144, 1, 941, 942), (58, 947, 144, 1, 945, 946), (59, 1408, 144, 1, 1406, 1407)]
def k_MR_1 : List (Nat × Nat × Nat × Nat × Nat × Nat) := [(60, 549, 150, 1, 548, 9999), (61, 1186, 150, 1, 1184, 1185), (62, 1195, 150, 1, 1194, 39), (63, 1201, 150, 1, 1200, 40), (64, 1205, 150, 1, 1204, 41), (65, 1214, 150, 1, 1212, 1213), (66, 1222, 150, 1, 1220, 1221), (67, 465, 147, 1, 464, 9999), (68, 972, 147, 1, 970, 971), (69, 990, 147, 1, 988, 989), (70, 995, 147, 1, 994, 22), (71, 1009, 147, 1, 1008, 23), (72, 1362, 147, 1, 1360, 1361), (73, 1377, 147, 1, 1375, 1376), (74, 1367, 147, 1, 1366, 51), (75, 1371, 147, 1, 1370, 52), (76, 363, 145, 1, 362, 9999), (77, 812, 145, 1, 810, 811), (78, 817, 145, 1, 816, 8), (79, 827, 145, 1, 826, 9), (80, 831, 145, 1, 830, 10), (81, 836, 145, 1, 834, 835), (82, 1191, 145, 1, 1189, 1190), (83, 840, 145, 1, 839, 11), (84, 859, 145, 1, 857, 858), (85, 863, 145, 1, 861, 862), (86, 867, 145, 1, 865, 866), (87, 854, 145, 1, 852, 853), (88, 412, 146, 1, 411, 9999), (89, 848, 146, 1, 846, 847), (90, 939, 146, 1, 937, 938), (91, 881, 146, 1, 879, 880), (92, 886, 146, 1, 885, 12), (93, 896, 146, 1, 895, 13), (94, 910, 146, 1, 909, 16), (95, 915, 146, 1, 914, 17), (96, 902, 146, 1, 901, 14), (97, 906, 146, 1, 905, 15), (98, 919, 146, 1, 918, 18), (99, 927, 146, 1, 926, 20), (100, 923, 146, 1, 922, 19), (101, 258, 143, 1, 257, 9999), (102, 672, 143, 0, 671, 9999), (103, 676, 143, 1, 674, 675), (104, 688, 143, 1, 686, 687), (105, 694, 143, 1, 693, 0), (106, 702, 143, 1, 701, 2), (107, 712, 143, 1, 711, 4), (108, 698, 143, 1, 697, 1), (109, 716, 143, 1, 715, 5), (110, 708, 143, 1, 707, 3), (111, 611, 153, 1, 610, 9999), (112, 1132, 153, 1, 1130, 1131), (113, 1144, 153, 1, 1143, 35), (114, 1138, 153, 1, 1136, 1137), (115, 1155, 153, 1, 1154, 36), (116, 1159, 153, 1, 1158, 37), (117, 1345, 153, 1, 1343, 1344), (118, 1349, 153, 1, 1348, 50), (119, 509, 149, 1, 508, 9999)]
def k_MR_2 : List (Nat × Nat × Nat × Nat × Nat × Nat) := [(120, 1064, 149, 1, 1062, 1063), (121, 1073, 149, 1, 1072, 27), (122, 1102, 149, 1, 1101, 33), (123, 1106, 149, 1, 1105, 34), (124, 1079, 149, 1, 1078, 28), (125, 1084, 149, 1, 1083, 29), (126, 1090, 149, 1, 1089, 30), (127, 1098, 149, 1, 1097, 32), (128, 1094, 149, 1, 1093, 31), (129, 166, 140, 1, 165, 9999), (130, 669, 140, 1, 667, 668), (131, 680, 140, 1, 678, 679), (132, 684, 140, 1, 682, 683), (133, 724, 140, 1, 722, 723), (134, 1443, 140, 1, 1441, 1442), (135, 735, 140, 1, 733, 734), (136, 743, 140, 1, 741, 742), (137, 767, 140, 1, 765, 766), (138, 779, 140, 1, 777, 778), (139, 796, 140, 1, 794, 795), (140, 800, 140, 1, 798, 799), (141, 808, 140, 1, 806, 807), (142, 844, 140, 1, 842, 843), (143, 935, 140, 1, 933, 934), (144, 951, 140, 1, 949, 950), (145, 964, 140, 1, 962, 963), (146, 968, 140, 1, 966, 967), (147, 982, 140, 1, 980, 981), (148, 1014, 140, 1, 1012, 1013), (149, 1032, 140, 1, 1030, 1031), (150, 1056, 140, 1, 1054, 1055), (151, 1110, 140, 1, 1108, 1109), (152, 1128, 140, 1, 1126, 1127), (153, 1169, 140, 1, 1167, 1168), (154, 1174, 140, 1, 1172, 1173), (155, 1178, 140, 1, 1176, 1177), (156, 1209, 140, 1, 1207, 1208), (157, 1218, 140, 1, 1216, 1217), (158, 1227, 140, 1, 1225, 1226), (159, 1242, 140, 1, 1240, 1241), (160, 1251, 140, 1, 1249, 1250), (161, 1275, 140, 1, 1273, 1274), (162, 1308, 140, 1, 1306, 1307), (163, 1321, 140, 1, 1319, 1320), (164, 1325, 140, 1, 1323, 1324), (165, 1333, 140, 1, 1331, 1332), (166, 1358, 140, 1, 1356, 1357), (167, 1382, 140, 1, 1380, 1381), (168, 1404, 140, 1, 1402, 1403), (169, 1412, 140, 1, 1410, 1411), (170, 1423, 140, 1, 1421, 1422), (171, 1432, 140, 1, 1430, 1431), (172, 174, 140, 0, 173, 9999), (173, 751, 140, 1, 750, 6), (174, 1182, 140, 1, 1181, 38), (175, 1060, 140, 1, 1059, 26), (176, 985, 140, 0, 984, 9999), (177, 1419, 140, 0, 1418, 9999), (178, 1416, 140, 1, 1415, 55), (179, 1737, 154, 0, 1736, 9999)]
def k_MR_3 : List (Nat × Nat × Nat × Nat × Nat × Nat) := [(180, 1518, 154, 0, 1517, 9999), (181, 1514, 154, 1, 1513, 9999), (182, 1688, 154, 1, 1686, 1687), (183, 1695, 154, 0, 1694, 9999), (184, 1692, 154, 1, 1690, 1691), (185, 1699, 154, 1, 1697, 1698), (186, 1719, 154, 1, 1718, 60), (187, 1715, 154, 1, 1714, 59), (188, 1727, 154, 1, 1726, 62), (189, 1734, 154, 0, 1733, 9999), (190, 1731, 154, 1, 1730, 63), (191, 1723, 154, 1, 1722, 61), (192, 1711, 154, 1, 1710, 58), (193, 1741, 154, 1, 1740, 64), (194, 1707, 154, 1, 1706, 57), (195, 1703, 154, 1, 1701, 1702), (196, 1745, 154, 1, 1743, 1744), (197, 1749, 154, 1, 1747, 1748), (198, 1761, 154, 1, 1760, 65), (199, 1765, 154, 1, 1764, 66), (200, 1768, 154, 0, 1767, 9999), (201, 1787, 154, 0, 1786, 9999), (202, 1790, 154, 0, 1789, 9999), (203, 1793, 154, 0, 1792, 9999), (204, 1784, 154, 1, 1783, 68), (205, 1753, 154, 1, 1751, 1752), (206, 1772, 154, 1, 1771, 67), (207, 1757, 154, 1, 1755, 1756), (208, 1776, 154, 1, 1774, 1775), (209, 1801, 154, 1, 1800, 70), (210, 1797, 154, 1, 1796, 69), (211, 1780, 154, 1, 1778, 1779), (212, 1805, 154, 1, 1803, 1804), (213, 1813, 154, 1, 1812, 71), (214, 1809, 154, 1, 1807, 1808), (215, 1825, 154, 1, 1824, 73), (216, 1829, 154, 1, 1828, 74), (217, 1833, 154, 1, 1832, 75), (218, 1821, 154, 1, 1820, 72), (219, 1817, 154, 1, 1815, 1816), (220, 1853, 154, 1, 1852, 79), (221, 1849, 154, 1, 1848, 78), (222, 1894, 154, 1, 1893, 89), (223, 1890, 154, 1, 1889, 88), (224, 1926, 154, 1, 1925, 92), (225, 1918, 154, 1, 1917, 91), (226, 1954, 154, 1, 1953, 99), (227, 1861, 154, 1, 1860, 81), (228, 1857, 154, 1, 1856, 80), (229, 1882, 154, 1, 1881, 86), (230, 1878, 154, 1, 1877, 85), (231, 1874, 154, 1, 1873, 84), (232, 1869, 154, 1, 1868, 83), (233, 1886, 154, 1, 1885, 87), (234, 1865, 154, 1, 1864, 82), (235, 1845, 154, 1, 1844, 77), (236, 1841, 154, 1, 1840, 76), (237, 1837, 154, 1, 1835, 1836), (238, 1902, 154, 1, 1901, 90), (239, 1898, 154, 1, 1896, 1897)]
def k_MR_4 : List (Nat × Nat × Nat × Nat × Nat × Nat) := [(240, 1906, 154, 1, 1904, 1905), (241, 1910, 154, 1, 1908, 1909), (242, 1914, 154, 1, 1912, 1913), (243, 1946, 154, 1, 1945, 97), (244, 1942, 154, 1, 1941, 96), (245, 1938, 154, 1, 1937, 95), (246, 1934, 154, 1, 1933, 94), (247, 1930, 154, 1, 1929, 93), (248, 1950, 154, 1, 1949, 98), (249, 1922, 154, 1, 1920, 1921), (250, 1962, 154, 1, 1961, 100), (251, 1966, 154, 1, 1965, 101), (252, 1974, 154, 1, 1973, 103), (253, 1970, 154, 1, 1969, 102), (254, 1958, 154, 1, 1956, 1957), (255, 1981, 154, 0, 1980, 9999), (256, 1978, 154, 1, 1976, 1977), (257, 1995, 154, 1, 1994, 105), (258, 1999, 154, 1, 1998, 106), (259, 1990, 154, 1, 1989, 104), (260, 1986, 154, 1, 1984, 1985), (261, 2007, 154, 1, 2006, 107), (262, 2003, 154, 1, 2001, 2002), (263, 2015, 154, 1, 2014, 108), (264, 2023, 154, 1, 2022, 110), (265, 2031, 154, 1, 2030, 112), (266, 2027, 154, 1, 2026, 111), (267, 2019, 154, 1, 2018, 109), (268, 2011, 154, 1, 2009, 2010), (269, 2035, 154, 1, 2033, 2034), (270, 2039, 154, 1, 2037, 2038), (271, 2047, 154, 1, 2046, 113), (272, 2051, 154, 1, 2050, 114), (273, 2055, 154, 1, 2054, 115), (274, 2043, 154, 1, 2041, 2042), (275, 2059, 154, 1, 2057, 2058), (276, 2063, 154, 1, 2061, 2062), (277, 2075, 154, 1, 2074, 117), (278, 2079, 154, 1, 2078, 118), (279, 2071, 154, 1, 2070, 116), (280, 2067, 154, 1, 2065, 2066), (281, 2083, 154, 1, 2081, 2082), (282, 2095, 154, 1, 2094, 120), (283, 2099, 154, 1, 2098, 121), (284, 2091, 154, 1, 2090, 119), (285, 2087, 154, 1, 2085, 2086), (286, 2115, 154, 1, 2114, 124), (287, 2111, 154, 1, 2110, 123), (288, 2107, 154, 1, 2106, 122), (289, 2119, 154, 1, 2118, 125), (290, 2103, 154, 1, 2101, 2102), (291, 2127, 154, 1, 2126, 126), (292, 2123, 154, 1, 2121, 2122), (293, 2131, 154, 1, 2129, 2130), (294, 2143, 154, 1, 2142, 128), (295, 2139, 154, 1, 2138, 127), (296, 2135, 154, 1, 2133, 2134), (297, 2155, 154, 1, 2154, 130), (298, 2147, 154, 1, 2145, 2146), (299, 2151, 154, 1, 2150, 129)]
def k_MR_5 : List (Nat × Nat × Nat × Nat × Nat × Nat) := [(300, 2159, 154, 1, 2158, 131), (301, 2163, 154, 1, 2162, 132), (302, 2171, 154, 1, 2170, 133), (303, 2189, 154, 1, 2188, 137), (304, 2180, 154, 1, 2179, 135), (305, 2167, 154, 1, 2165, 2166), (306, 2175, 154, 1, 2174, 134), (307, 2184, 154, 1, 2183, 136), (308, 2193, 154, 1, 2191, 2192), (309, 2201, 154, 1, 2200, 138), (310, 2197, 154, 1, 2195, 2196), (311, 2208, 154, 0, 2207, 9999), (312, 2205, 154, 1, 2203, 2204), (313, 2212, 154, 1, 2210, 2211), (314, 2216, 154, 1, 2214, 2215), (315, 1148, 161, 0, 1147, 9999), (316, 1001, 161, 0, 1000, 9999), (317, 1048, 161, 0, 1047, 9999), (318, 1051, 161, 0, 1050, 9999), (319, 782, 142, 0, 781, 9999), (320, 180, 142, 0, 179, 9999), (321, 177, 142, 0, 176, 9999), (322, 877, 152, 0, 876, 9999), (323, 575, 152, 0, 574, 9999), (324, 874, 152, 0, 873, 9999), (325, 1435, 139, 0, 1434, 9999)]
def k_MR : List (Nat × Nat × Nat × Nat × Nat × Nat) := k_MR_0 ++ (k_MR_1 ++ (k_MR_2 ++ (k_MR_3 ++ (k_MR_4 ++ (k_MR_5)))))
def k_mchk (q : Nat × Nat × Nat × Nat × Nat × Nat) : Bool := match q with
  | (n, pc, pi, kd, pk, ps) => k_at pi (.initialized (MT n).1.cls) && (Nat.ble (MT n).2.2.1 21 && (decide ((MT n).1.cls ≠ "java/lang/invoke/MethodHandle" ∧ (MT n).1.cls ≠ "java/lang/invoke/VarHandle") && (match kd with
    | 0 => k_at pk (.static (MT n).1)
    | _ => k_at pk (.instanceMethod (MT n).1) && (match Nat.beq ps 9999 with
      | true => true
      | false => k_at ps (.selects (MT n).1.cls (MT n).1 (MT n).1)))))
def k_cdw (q : Nat × Nat × Nat × Nat × Nat × Nat) : Prop := lw_tbl[q.2.1]? = some (.code (MT q.1).1 (MT q.1).2.1 (MT q.1).2.2.1 (MT q.1).2.2.2)
theorem k_MR_ok0 : k_MR_0.all k_mchk = true := by decide +kernel
theorem k_MR_ok1 : k_MR_1.all k_mchk = true := by decide +kernel
theorem k_MR_ok2 : k_MR_2.all k_mchk = true := by decide +kernel
theorem k_MR_ok3 : k_MR_3.all k_mchk = true := by decide +kernel
theorem k_MR_ok4 : k_MR_4.all k_mchk = true := by decide +kernel
theorem k_MR_ok5 : k_MR_5.all k_mchk = true := by decide +kernel
theorem k_MR_ok : ∀ q ∈ k_MR, k_mchk q = true := by
  intro q h
  simp only [k_MR, List.mem_append] at h
  rcases h with h | h
  · exact List.all_eq_true.mp k_MR_ok0 q h
  rcases h with h | h
  · exact List.all_eq_true.mp k_MR_ok1 q h
  rcases h with h | h
  · exact List.all_eq_true.mp k_MR_ok2 q h
  rcases h with h | h
  · exact List.all_eq_true.mp k_MR_ok3 q h
  rcases h with h | h
  · exact List.all_eq_true.mp k_MR_ok4 q h
  exact List.all_eq_true.mp k_MR_ok5 q h
def k_FR_0 : List (Nat × Nat × Nat × Nat × Nat × Nat) := [(2, 9, 2, 0, 0, 185), (10, 48, 2, 0, 0, 186), (6, 95, 2, 0, 0, 187), (3, 81, 2, 0, 0, 188), (11, 336, 2, 0, 0, 189), (2, 15, 2, 1, 0, 190), (10, 60, 2, 1, 0, 191), (6, 101, 2, 1, 0, 192), (11, 342, 2, 1, 0, 193), (2, 18, 2, 2, 0, 194), (0, 19, 2, 2, 0, 195), (11, 24, 2, 2, 0, 196), (2, 21, 2, 3, 0, 197), (4, 65, 2, 3, 0, 198), (6, 110, 2, 3, 0, 199), (3, 78, 2, 3, 0, 200), (10, 134, 2, 3, 0, 201), (0, 112, 2, 3, 0, 202), (7, 25, 2, 4, 0, 203), (9, 23, 2, 4, 0, 204), (6, 23, 2, 4, 0, 205), (5, 27, 2, 4, 0, 206), (2, 24, 2, 4, 0, 207), (0, 35, 2, 4, 0, 208), (10, 33, 2, 4, 0, 209), (3, 31, 2, 4, 0, 210), (4, 33, 2, 4, 0, 211), (1, 50, 2, 4, 0, 212), (2, 27, 2, 5, 1, 213), (0, 79, 2, 5, 1, 214), (1, 79, 2, 5, 1, 215), (9, 63, 2, 5, 1, 216), (7, 124, 2, 5, 1, 217), (4, 85, 2, 5, 1, 218), (6, 123, 2, 5, 1, 219), (3, 88, 2, 5, 1, 220), (2, 31, 2, 6, 1, 221), (10, 42, 2, 6, 1, 222), (0, 62, 2, 6, 1, 223), (6, 92, 2, 6, 1, 224), (2, 34, 2, 7, 1, 225), (10, 54, 2, 7, 1, 226), (0, 65, 2, 7, 1, 227), (6, 104, 2, 7, 1, 228), (2, 37, 2, 8, 1, 229), (0, 68, 2, 8, 1, 230), (1, 63, 2, 8, 1, 231), (6, 107, 2, 8, 1, 232), (4, 82, 2, 8, 1, 233), (8, 18, 8, 0, 0, 260), (8, 9, 8, 1, 1, 261), (8, 15, 8, 2, 1, 262), (11, 123, 8, 2, 1, 263), (11, 110, 8, 3, 0, 264), (8, 22, 8, 3, 0, 265), (8, 25, 8, 4, 0, 266), (8, 28, 8, 5, 0, 267), (3, 27, 3, 0, 1, 287), (3, 9, 3, 1, 1, 288), (11, 138, 3, 1, 1, 289)]
def k_FR_1 : List (Nat × Nat × Nat × Nat × Nat × Nat) := [(3, 15, 3, 2, 1, 290), (3, 18, 3, 3, 1, 291), (5, 48, 3, 3, 1, 292), (11, 206, 3, 3, 1, 293), (3, 21, 3, 4, 1, 294), (7, 50, 3, 4, 1, 295), (9, 35, 3, 4, 1, 296), (5, 51, 3, 4, 1, 297), (10, 75, 3, 4, 1, 298), (11, 157, 3, 4, 1, 299), (0, 102, 3, 4, 1, 300), (6, 126, 3, 4, 1, 301), (3, 24, 3, 5, 1, 302), (3, 37, 3, 6, 1, 303), (1, 67, 3, 6, 1, 304), (6, 117, 3, 6, 1, 305), (0, 120, 3, 6, 1, 306), (3, 40, 3, 7, 1, 307), (6, 66, 3, 7, 1, 308), (3, 43, 3, 8, 1, 309), (6, 69, 3, 8, 1, 310), (1, 87, 3, 8, 1, 311), (5, 102, 3, 8, 1, 312), (3, 46, 3, 9, 1, 313), (3, 49, 3, 10, 1, 314), (9, 54, 3, 10, 1, 315), (0, 130, 3, 10, 1, 316), (3, 52, 3, 11, 1, 317), (3, 55, 3, 12, 1, 318), (3, 58, 3, 13, 0, 319), (11, 120, 3, 13, 0, 320), (0, 53, 3, 14, 0, 321), (5, 45, 3, 14, 0, 322), (10, 72, 3, 14, 0, 323), (3, 67, 3, 14, 0, 324), (6, 80, 3, 14, 0, 325), (11, 141, 3, 14, 0, 326), (1, 134, 3, 14, 0, 327), (6, 15, 6, 0, 1, 365), (6, 19, 6, 1, 1, 366), (6, 29, 6, 2, 1, 367), (1, 70, 6, 2, 1, 368), (6, 32, 6, 3, 1, 369), (1, 73, 6, 3, 1, 370), (5, 90, 6, 3, 1, 371), (6, 35, 6, 4, 1, 372), (4, 76, 6, 4, 1, 373), (6, 38, 6, 5, 1, 374), (4, 39, 6, 5, 1, 375), (10, 103, 6, 5, 1, 376), (9, 101, 6, 5, 1, 377), (7, 147, 6, 5, 1, 378), (11, 190, 6, 5, 1, 379), (6, 41, 6, 6, 1, 380), (1, 76, 6, 6, 1, 381), (4, 56, 6, 6, 1, 382), (6, 44, 6, 7, 1, 383), (4, 79, 6, 7, 1, 384), (6, 9, 6, 8, 1, 385), (6, 47, 6, 9, 0, 386)]
def k_FR_2 : List (Nat × Nat × Nat × Nat × Nat × Nat) := [(7, 11, 7, 0, 1, 414), (7, 17, 7, 1, 1, 415), (7, 21, 7, 2, 1, 416), (7, 31, 7, 3, 1, 417), (5, 87, 7, 3, 1, 418), (7, 35, 7, 4, 1, 419), (7, 38, 7, 5, 1, 420), (7, 41, 7, 6, 1, 421), (7, 44, 7, 7, 1, 422), (7, 47, 7, 8, 1, 423), (7, 131, 7, 9, 0, 424), (7, 86, 7, 10, 0, 425), (7, 89, 7, 11, 0, 426), (7, 92, 7, 12, 0, 427), (7, 95, 7, 13, 0, 428), (7, 98, 7, 14, 0, 429), (5, 9, 5, 0, 1, 467), (5, 15, 5, 1, 1, 468), (5, 19, 5, 2, 1, 469), (5, 23, 5, 3, 1, 470), (5, 33, 5, 4, 1, 471), (5, 37, 5, 5, 1, 472), (1, 9, 1, 0, 1, 492), (1, 15, 1, 1, 1, 493), (1, 19, 1, 2, 1, 494), (1, 23, 1, 3, 1, 495), (10, 21, 10, 0, 1, 511), (10, 25, 10, 1, 1, 512), (10, 29, 10, 2, 1, 513), (10, 11, 10, 3, 1, 514), (10, 15, 10, 4, 1, 515), (10, 18, 10, 5, 1, 516), (10, 69, 10, 6, 0, 517), (10, 39, 10, 7, 0, 518), (10, 45, 10, 8, 0, 519), (10, 51, 10, 9, 0, 520), (10, 57, 10, 10, 0, 521), (4, 9, 4, 0, 1, 551), (4, 15, 4, 1, 1, 552), (4, 19, 4, 2, 1, 553), (4, 46, 4, 3, 0, 554), (4, 49, 4, 4, 0, 555), (0, 9, 0, 0, 1, 576), (0, 15, 0, 1, 1, 577), (0, 25, 0, 2, 1, 578), (11, 304, 0, 2, 1, 579), (0, 47, 0, 3, 0, 580), (11, 280, 0, 3, 0, 581), (0, 50, 0, 4, 0, 582), (11, 283, 0, 4, 0, 583), (0, 38, 0, 5, 1, 584), (0, 41, 0, 6, 1, 585), (0, 44, 0, 7, 1, 586), (0, 89, 0, 8, 0, 587), (9, 9, 9, 0, 1, 613), (9, 15, 9, 1, 1, 614), (9, 19, 9, 2, 1, 615), (9, 29, 9, 3, 1, 616), (9, 32, 9, 4, 1, 617), (9, 51, 9, 5, 0, 618)]
def k_FR_3 : List (Nat × Nat × Nat × Nat × Nat × Nat) := [(11, 18, 11, 0, 1, 632), (11, 31, 11, 1, 1, 633), (11, 40, 11, 2, 1, 634), (11, 49, 11, 3, 1, 635), (11, 58, 11, 4, 1, 636), (11, 67, 11, 5, 1, 637), (11, 74, 11, 6, 1, 638), (11, 81, 11, 7, 1, 639), (11, 88, 11, 8, 1, 640), (11, 95, 11, 9, 1, 641), (11, 102, 11, 10, 1, 642), (12, 145, 12, 0, 0, 1521), (12, 135, 12, 1, 0, 1522), (12, 139, 12, 2, 0, 1523), (12, 142, 12, 3, 0, 1524), (12, 18, 12, 4, 1, 1525), (12, 152, 12, 5, 0, 1526), (12, 155, 12, 6, 0, 1527), (12, 162, 12, 7, 0, 1528), (12, 22, 12, 8, 1, 1529), (12, 25, 12, 9, 1, 1530), (12, 28, 12, 10, 1, 1531), (12, 31, 12, 11, 1, 1532), (12, 34, 12, 12, 1, 1533), (12, 199, 12, 13, 0, 1534), (12, 183, 12, 14, 0, 1535), (12, 37, 12, 15, 1, 1536), (12, 40, 12, 16, 1, 1537), (12, 43, 12, 17, 1, 1538), (12, 46, 12, 18, 1, 1539), (12, 49, 12, 19, 1, 1540), (12, 52, 12, 20, 1, 1541), (12, 55, 12, 21, 1, 1542), (12, 58, 12, 22, 1, 1543), (12, 61, 12, 23, 1, 1544), (12, 64, 12, 24, 1, 1545), (12, 67, 12, 25, 1, 1546), (12, 202, 12, 26, 0, 1547), (12, 71, 12, 27, 1, 1548), (12, 240, 12, 28, 0, 1549), (12, 247, 12, 29, 0, 1550), (12, 243, 12, 30, 2, 1551), (12, 74, 12, 31, 1, 1552), (12, 77, 12, 32, 1, 1553), (12, 263, 12, 33, 0, 1554), (12, 80, 12, 34, 1, 1555), (12, 83, 12, 35, 1, 1556), (12, 86, 12, 36, 1, 1557), (12, 89, 12, 37, 1, 1558), (12, 92, 12, 38, 1, 1559), (12, 95, 12, 39, 1, 1560), (12, 98, 12, 40, 1, 1561), (12, 273, 12, 41, 2, 1562), (12, 101, 12, 42, 1, 1563), (12, 104, 12, 43, 1, 1564), (12, 107, 12, 44, 1, 1565), (12, 110, 12, 45, 1, 1566), (12, 113, 12, 46, 1, 1567), (12, 409, 12, 47, 0, 1568), (12, 406, 12, 48, 0, 1569)]
def k_FR_4 : List (Nat × Nat × Nat × Nat × Nat × Nat) := [(12, 116, 12, 49, 1, 1570), (12, 119, 12, 50, 1, 1571), (12, 122, 12, 51, 1, 1572), (12, 125, 12, 52, 1, 1573), (12, 128, 12, 53, 1, 1574)]
def k_FR : List (Nat × Nat × Nat × Nat × Nat × Nat) := k_FR_0 ++ (k_FR_1 ++ (k_FR_2 ++ (k_FR_3 ++ (k_FR_4))))
def k_tc : FieldType → Nat
  | .int => 0
  | .boolean => 2
  | _ => 1
def k_TX (ci : Nat) : u_T := match cls[ci]? with
  | some q => q.2.1
  | none => TX0
def k_fchk (q : Nat × Nat × Nat × Nat × Nat × Nat) : Bool := match q with
  | (o, i, ci, k, t, p) => Nat.ble ci 12 && (Nat.blt k (k_nf ci) && (Nat.beq (k_tc (k_ty ci k)) t && k_at p (.fieldLink (CN o) i (k_TX ci k).1 (k_TX ci k).2.1 (k_TX ci k).2.2.1)))
theorem k_FR_ok0 : k_FR_0.all k_fchk = true := by decide +kernel
theorem k_FR_ok1 : k_FR_1.all k_fchk = true := by decide +kernel
theorem k_FR_ok2 : k_FR_2.all k_fchk = true := by decide +kernel
theorem k_FR_ok3 : k_FR_3.all k_fchk = true := by decide +kernel
theorem k_FR_ok4 : k_FR_4.all k_fchk = true := by decide +kernel
theorem k_FR_ok : ∀ q ∈ k_FR, k_fchk q = true := by
  intro q h
  simp only [k_FR, List.mem_append] at h
  rcases h with h | h
  · exact List.all_eq_true.mp k_FR_ok0 q h
  rcases h with h | h
  · exact List.all_eq_true.mp k_FR_ok1 q h
  rcases h with h | h
  · exact List.all_eq_true.mp k_FR_ok2 q h
  rcases h with h | h
  · exact List.all_eq_true.mp k_FR_ok3 q h
  exact List.all_eq_true.mp k_FR_ok4 q h
def k_LR_0 : List (Nat × Nat × Nat × Nat × Nat) := [(13, 21, 129, 3, 164), (11, 9, 172, 3, 172), (11, 255, 321, 2, 175), (11, 258, 320, 2, 178), (11, 15, 28, 3, 181), (11, 28, 101, 1, 256), (11, 37, 31, 1, 283), (11, 46, 76, 2, 361), (11, 55, 88, 3, 410), (11, 64, 67, 4, 463), (11, 73, 17, 4, 488), (11, 80, 119, 3, 507), (11, 87, 60, 3, 547), (11, 94, 0, 2, 569), (0, 29, 323, 2, 573), (11, 101, 111, 3, 609), (13, 27, 130, 5, 666), (11, 106, 102, 1, 670), (11, 113, 103, 1, 673), (13, 32, 131, 1, 677), (13, 37, 132, 0, 681), (11, 116, 104, 0, 685), (8, 34, 105, 0, 691), (8, 38, 108, 0, 695), (8, 41, 106, 0, 699), (8, 45, 110, 0, 705), (8, 56, 107, 0, 709), (8, 48, 109, 1, 713), (13, 42, 133, 0, 721), (11, 127, 32, 1, 725), (13, 53, 135, 1, 732), (11, 144, 33, 1, 736), (13, 58, 136, 4, 740), (11, 147, 29, 3, 744), (11, 150, 173, 1, 748), (11, 154, 35, 1, 752), (3, 70, 36, 2, 756), (11, 160, 37, 2, 760), (13, 63, 137, 5, 764), (11, 164, 30, 0, 768), (11, 167, 39, 5, 772), (13, 68, 138, 6, 776), (11, 171, 319, 1, 780), (11, 176, 40, 4, 783), (3, 84, 42, 5, 787), (13, 73, 139, 4, 793), (13, 78, 140, 3, 797), (11, 180, 52, 1, 801), (13, 83, 141, 4, 805), (11, 183, 77, 2, 809), (6, 50, 323, 2, 813), (6, 56, 78, 1, 814), (6, 76, 34, 2, 818), (6, 83, 320, 2, 822), (6, 60, 52, 1, 823), (6, 72, 79, 3, 824), (6, 88, 80, 4, 828), (6, 98, 321, 2, 832), (11, 187, 81, 1, 833), (6, 113, 83, 2, 837)]
def k_LR_1 : List (Nat × Nat × Nat × Nat × Nat) := [(13, 87, 142, 1, 841), (11, 193, 89, 1, 845), (7, 55, 77, 2, 849), (7, 61, 81, 1, 850), (7, 65, 87, 2, 851), (6, 129, 36, 2, 855), (6, 132, 84, 2, 856), (6, 120, 85, 2, 860), (6, 135, 86, 1, 864), (7, 69, 44, 1, 868), (3, 94, 324, 4, 872), (16, 13, 322, 3, 875), (7, 72, 91, 2, 878), (7, 82, 34, 2, 882), (7, 101, 92, 1, 883), (7, 115, 323, 2, 887), (7, 104, 36, 2, 888), (7, 121, 53, 2, 889), (7, 107, 93, 1, 893), (7, 128, 324, 4, 898), (7, 134, 96, 2, 899), (7, 137, 97, 0, 903), (7, 141, 94, 1, 907), (7, 150, 95, 2, 912), (7, 111, 98, 2, 916), (7, 153, 100, 2, 920), (7, 156, 99, 2, 924), (7, 159, 41, 3, 928), (13, 91, 143, 2, 932), (11, 196, 90, 2, 936), (7, 76, 57, 0, 940), (7, 79, 58, 0, 944), (13, 96, 144, 1, 948), (11, 200, 48, 1, 952), (3, 103, 51, 3, 956), (11, 203, 44, 1, 960), (13, 100, 145, 2, 961), (13, 105, 146, 0, 965), (11, 209, 68, 0, 969), (5, 40, 45, 0, 973), (3, 100, 323, 2, 977), (5, 54, 89, 1, 978), (13, 109, 147, 2, 979), (11, 212, 176, 2, 983), (11, 216, 57, 0, 986), (11, 219, 69, 2, 987), (5, 60, 323, 2, 991), (5, 66, 70, 1, 992), (5, 74, 44, 1, 996), (5, 78, 77, 2, 997), (5, 84, 81, 1, 998), (5, 93, 316, 1, 999), (5, 98, 91, 2, 1005), (5, 70, 71, 0, 1006), (11, 222, 58, 0, 1010), (13, 113, 148, 2, 1011), (11, 225, 18, 2, 1015), (1, 27, 77, 2, 1019), (1, 33, 81, 1, 1020), (1, 37, 36, 2, 1021)]
def k_LR_2 : List (Nat × Nat × Nat × Nat × Nat) := [(1, 43, 84, 2, 1022), (1, 46, 86, 1, 1023), (1, 56, 19, 1, 1024), (1, 60, 34, 2, 1028), (13, 117, 149, 1, 1029), (11, 228, 22, 2, 1033), (1, 90, 87, 2, 1037), (1, 94, 21, 1, 1038), (1, 97, 316, 1, 1042), (1, 100, 20, 1, 1043), (1, 82, 317, 1, 1046), (14, 268, 318, 1, 1049), (13, 121, 150, 1, 1053), (11, 231, 175, 1, 1057), (11, 234, 120, 1, 1061), (10, 63, 316, 1, 1065), (10, 78, 49, 1, 1066), (10, 82, 121, 2, 1070), (10, 93, 77, 2, 1074), (10, 99, 81, 1, 1075), (10, 86, 124, 2, 1076), (10, 109, 36, 2, 1080), (10, 106, 125, 2, 1081), (10, 123, 34, 2, 1085), (10, 126, 320, 2, 1086), (10, 131, 126, 2, 1087), (10, 119, 128, 3, 1091), (10, 116, 127, 1, 1095), (10, 90, 122, 2, 1099), (10, 112, 123, 4, 1103), (13, 125, 151, 2, 1107), (11, 237, 54, 1, 1111), (3, 107, 316, 1, 1115), (11, 240, 55, 1, 1116), (11, 243, 56, 1, 1120), (3, 113, 52, 1, 1124), (13, 129, 152, 2, 1125), (11, 246, 112, 1, 1129), (9, 40, 49, 1, 1133), (9, 44, 48, 1, 1134), (11, 249, 114, 2, 1135), (9, 69, 77, 2, 1139), (9, 75, 81, 1, 1140), (9, 79, 113, 1, 1141), (9, 47, 36, 2, 1145), (9, 57, 315, 1, 1146), (9, 82, 54, 1, 1151), (9, 85, 115, 4, 1152), (9, 89, 116, 2, 1156), (9, 104, 52, 1, 1160), (9, 93, 43, 3, 1161), (9, 97, 41, 3, 1165), (13, 133, 153, 1, 1166), (13, 137, 154, 2, 1171), (13, 141, 155, 3, 1175), (11, 261, 174, 1, 1179), (11, 264, 61, 3, 1183), (4, 23, 77, 2, 1187), (4, 29, 82, 1, 1188), (4, 43, 62, 1, 1192)]
def k_LR_3 : List (Nat × Nat × Nat × Nat × Nat) := [(4, 59, 323, 2, 1196), (4, 68, 85, 2, 1197), (4, 72, 63, 1, 1198), (4, 52, 64, 1, 1202), (13, 145, 156, 2, 1206), (11, 267, 36, 2, 1210), (11, 270, 65, 2, 1211), (13, 149, 157, 3, 1215), (11, 273, 66, 3, 1219), (4, 88, 52, 1, 1223), (13, 153, 158, 3, 1224), (11, 276, 1, 2, 1228), (0, 58, 53, 2, 1232), (0, 71, 29, 3, 1233), (0, 75, 2, 2, 1234), (0, 82, 52, 1, 1238), (13, 157, 159, 2, 1239), (11, 286, 3, 2, 1243), (0, 86, 1, 2, 1247), (13, 161, 160, 5, 1248), (11, 289, 26, 3, 1252), (1, 112, 57, 0, 1256), (1, 130, 38, 3, 1257), (3, 74, 47, 1, 1261), (1, 137, 27, 2, 1265), (1, 118, 58, 0, 1269), (1, 121, 44, 1, 1270), (1, 140, 89, 1, 1271), (13, 165, 161, 1, 1272), (11, 292, 4, 0, 1276), (0, 92, 5, 1, 1280), (0, 95, 6, 1, 1284), (11, 295, 7, 0, 1288), (0, 98, 8, 1, 1292), (11, 298, 9, 0, 1296), (0, 105, 10, 2, 1300), (0, 109, 36, 2, 1304), (13, 169, 162, 1, 1305), (11, 301, 11, 1, 1309), (0, 115, 316, 1, 1313), (0, 123, 12, 1, 1314), (13, 173, 163, 2, 1318), (13, 177, 164, 1, 1322), (11, 307, 13, 1, 1326), (13, 181, 165, 3, 1330), (11, 310, 15, 2, 1334), (0, 126, 14, 3, 1338), (11, 313, 117, 2, 1342), (9, 107, 118, 2, 1346), (9, 110, 320, 2, 1350), (11, 316, 16, 2, 1351), (13, 185, 166, 3, 1355), (11, 319, 72, 1, 1359), (5, 105, 68, 0, 1363), (5, 109, 74, 0, 1364), (5, 112, 75, 1, 1368), (5, 120, 54, 1, 1372), (5, 123, 55, 1, 1373), (11, 322, 73, 3, 1374), (5, 116, 69, 2, 1378)]
def k_LR_4 : List (Nat × Nat × Nat × Nat × Nat) := [(13, 189, 167, 1, 1379), (11, 325, 23, 1, 1383), (1, 103, 50, 1, 1387), (1, 106, 24, 1, 1391), (1, 109, 22, 2, 1395), (1, 115, 25, 2, 1396), (1, 124, 91, 2, 1400), (13, 193, 168, 0, 1401), (11, 328, 59, 0, 1405), (13, 198, 169, 4, 1409), (11, 332, 178, 4, 1413), (11, 339, 177, 3, 1417), (13, 202, 170, 1, 1420), (11, 345, 49, 1, 1424), (11, 348, 46, 1, 1425), (13, 206, 171, 1, 1429), (13, 15, 325, 2, 1433), (13, 7, 134, 2, 1440), (13, 26, 181, 3, 1512), (12, 131, 180, 3, 1516), (12, 3, 321, 2, 1519), (12, 9, 320, 2, 1520), (13, 50, 182, 0, 1685), (13, 31, 184, 5, 1689), (12, 148, 183, 6, 1693), (13, 36, 185, 1, 1696), (13, 41, 195, 0, 1700), (12, 196, 194, 1, 1704), (12, 193, 192, 1, 1708), (12, 165, 187, 0, 1712), (12, 158, 186, 0, 1716), (12, 179, 191, 1, 1720), (12, 172, 188, 0, 1724), (12, 186, 190, 2, 1728), (12, 168, 189, 1, 1732), (12, 175, 179, 3, 1735), (12, 189, 193, 1, 1738), (13, 45, 196, 0, 1742), (13, 49, 197, 2, 1746), (13, 57, 205, 1, 1750), (13, 62, 207, 4, 1754), (12, 220, 198, 1, 1758), (12, 214, 199, 3, 1762), (12, 217, 200, 3, 1766), (12, 223, 206, 1, 1769), (13, 67, 208, 5, 1773), (13, 72, 211, 6, 1777), (12, 229, 204, 2, 1781), (12, 205, 201, 1, 1785), (12, 208, 202, 1, 1788), (12, 211, 203, 1, 1791), (12, 232, 210, 3, 1794), (12, 226, 209, 3, 1798), (13, 77, 212, 4, 1802), (13, 82, 214, 3, 1806), (12, 236, 213, 2, 1810), (13, 86, 219, 4, 1814), (12, 259, 218, 3, 1818), (12, 250, 215, 2, 1822), (12, 253, 216, 2, 1826)]
def k_LR_5 : List (Nat × Nat × Nat × Nat × Nat) := [(12, 256, 217, 3, 1830), (13, 90, 237, 1, 1834), (12, 309, 236, 1, 1838), (12, 313, 235, 1, 1842), (12, 296, 221, 1, 1846), (12, 266, 220, 1, 1850), (12, 299, 228, 2, 1854), (12, 269, 227, 2, 1858), (12, 303, 234, 2, 1862), (12, 286, 232, 1, 1866), (12, 283, 231, 2, 1871), (12, 280, 230, 3, 1875), (12, 276, 229, 4, 1879), (12, 289, 233, 4, 1883), (12, 293, 223, 3, 1887), (12, 306, 222, 1, 1891), (13, 95, 239, 2, 1895), (12, 316, 238, 1, 1899), (13, 99, 240, 1, 1903), (13, 104, 241, 2, 1907), (13, 108, 242, 0, 1911), (12, 319, 225, 0, 1915), (13, 112, 249, 2, 1919), (12, 334, 224, 0, 1923), (12, 337, 247, 1, 1927), (12, 328, 246, 1, 1931), (12, 331, 245, 2, 1935), (12, 325, 244, 3, 1939), (12, 322, 243, 2, 1943), (12, 340, 248, 0, 1947), (12, 343, 226, 0, 1951), (13, 116, 254, 2, 1955), (12, 352, 250, 1, 1959), (12, 346, 251, 1, 1963), (12, 355, 253, 2, 1967), (12, 349, 252, 1, 1971), (13, 120, 256, 1, 1975), (12, 363, 255, 2, 1979), (12, 358, 316, 1, 1982), (13, 124, 260, 1, 1983), (12, 366, 259, 2, 1987), (12, 375, 315, 1, 1991), (12, 372, 257, 4, 1992), (12, 369, 258, 3, 1996), (13, 128, 262, 2, 2000), (12, 378, 261, 1, 2004), (13, 132, 268, 2, 2008), (12, 390, 263, 1, 2012), (12, 393, 267, 2, 2016), (12, 384, 264, 2, 2020), (12, 387, 266, 4, 2024), (12, 381, 265, 2, 2028), (13, 136, 269, 1, 2032), (13, 140, 270, 2, 2036), (13, 144, 274, 3, 2040), (12, 399, 271, 2, 2044), (12, 402, 272, 4, 2048), (12, 396, 273, 2, 2052), (13, 148, 275, 2, 2056), (13, 152, 276, 3, 2060)]
def k_LR_6 : List (Nat × Nat × Nat × Nat × Nat) := [(13, 156, 280, 3, 2064), (12, 419, 279, 2, 2068), (12, 412, 277, 5, 2072), (12, 416, 278, 2, 2076), (13, 160, 281, 2, 2080), (13, 164, 285, 5, 2084), (12, 425, 284, 3, 2088), (12, 428, 282, 2, 2092), (12, 422, 283, 1, 2096), (13, 168, 290, 1, 2100), (12, 437, 288, 0, 2104), (12, 434, 287, 2, 2108), (12, 431, 286, 1, 2112), (12, 440, 289, 2, 2116), (13, 172, 292, 1, 2120), (12, 443, 291, 2, 2124), (13, 176, 293, 2, 2128), (13, 180, 296, 1, 2132), (12, 449, 295, 1, 2136), (12, 446, 294, 2, 2140), (13, 184, 298, 3, 2144), (12, 452, 299, 2, 2148), (12, 461, 297, 2, 2152), (12, 455, 300, 2, 2156), (12, 458, 301, 2, 2160), (13, 188, 305, 3, 2164), (12, 464, 302, 0, 2168), (12, 467, 306, 1, 2172), (12, 476, 242, 0, 2176), (12, 479, 304, 1, 2177), (12, 470, 307, 3, 2181), (12, 483, 249, 2, 2185), (12, 473, 303, 0, 2186), (13, 192, 308, 1, 2190), (13, 197, 310, 0, 2194), (12, 486, 309, 2, 2198), (13, 201, 312, 4, 2202), (12, 489, 311, 3, 2206), (13, 205, 313, 1, 2209), (13, 209, 314, 1, 2213)]
def k_LR : List (Nat × Nat × Nat × Nat × Nat) := k_LR_0 ++ (k_LR_1 ++ (k_LR_2 ++ (k_LR_3 ++ (k_LR_4 ++ (k_LR_5 ++ (k_LR_6))))))
def k_lchk (q : Nat × Nat × Nat × Nat × Nat) : Bool := match q with
  | (o, i, n, na, p) => k_at p (.methodLink (CN o) i (MT n).1) && (decide ((parseMethodDescriptor (MT n).1.desc).map (fun d => d.parameters.length) = some na) && k_MR.any (fun r => Nat.beq r.1 n))
theorem k_LR_ok0 : k_LR_0.all k_lchk = true := by decide +kernel
theorem k_LR_ok1 : k_LR_1.all k_lchk = true := by decide +kernel
theorem k_LR_ok2 : k_LR_2.all k_lchk = true := by decide +kernel
theorem k_LR_ok3 : k_LR_3.all k_lchk = true := by decide +kernel
theorem k_LR_ok4 : k_LR_4.all k_lchk = true := by decide +kernel
theorem k_LR_ok5 : k_LR_5.all k_lchk = true := by decide +kernel
theorem k_LR_ok6 : k_LR_6.all k_lchk = true := by decide +kernel
theorem k_LR_ok : ∀ q ∈ k_LR, k_lchk q = true := by
  intro q h
  simp only [k_LR, List.mem_append] at h
  rcases h with h | h
  · exact List.all_eq_true.mp k_LR_ok0 q h
  rcases h with h | h
  · exact List.all_eq_true.mp k_LR_ok1 q h
  rcases h with h | h
  · exact List.all_eq_true.mp k_LR_ok2 q h
  rcases h with h | h
  · exact List.all_eq_true.mp k_LR_ok3 q h
  rcases h with h | h
  · exact List.all_eq_true.mp k_LR_ok4 q h
  rcases h with h | h
  · exact List.all_eq_true.mp k_LR_ok5 q h
  exact List.all_eq_true.mp k_LR_ok6 q h
def k_KR : List (Nat × Nat × Nat × Nat) := [(7, 127, 2147483647, 897), (14, 265, 1431655765, 1002), (14, 266, 858993459, 1003), (14, 267, 252645135, 1004), (14, 274, 65280, 1052), (14, 264, 65536, 1149), (11, 254, 2147483647, 1170), (12, 272, 1000000000, 1870)]
def k_kchk (q : Nat × Nat × Nat × Nat) : Bool := match q with
  | (o, i, v, p) => k_at p (.constant (CN o) i (Int32.ofInt (v : Int))) && Nat.ble v 2147483647
theorem k_KR_ok : ∀ q ∈ k_KR, k_kchk q = true := List.all_eq_true.mp (by decide +kernel)
def k_CR : List (Nat × Nat × Nat) := [(3, 61, 729)]
def k_cchk (q : Nat × Nat × Nat) : Bool := match q with
  | (o, i, p) => k_at p (.methodLink (CN o) i arraycopyName)
theorem k_CR_ok : ∀ q ∈ k_CR, k_cchk q = true := List.all_eq_true.mp (by decide +kernel)
theorem k_copy_ok : Cond.native arraycopyName ∈ TT ∧ Cond.static arraycopyName ∈ TT ∧ Cond.initialized "java/lang/System" ∈ TT := ⟨k_at_in (p := 731) (by decide +kernel), k_at_in (p := 730) (by decide +kernel), k_at_in (p := 155) (by decide +kernel)⟩
def k_NW : List Cond := [.fieldLinkNest "CopperBoard$Nets" 91 "CopperBoard" "OPPOSITE" "[I" "CopperBoard", .fieldLinkNest "CopperBoard$Router" 144 "CopperBoard" "OPPOSITE" "[I" "CopperBoard", .fieldLinkNest "CopperBoard$Trail" 66 "CopperBoard" "OPPOSITE" "[I" "CopperBoard"]
theorem k_NW_in : ∀ w ∈ k_NW, w ∈ lw_tbl := by
  intro w h
  simp only [k_NW, List.mem_cons, List.not_mem_nil, or_false] at h
  rcases h with rfl | rfl | rfl
  · exact List.mem_of_getElem? (i := 791) (by decide +kernel)
  · exact List.mem_of_getElem? (i := 911) (by decide +kernel)
  · exact List.mem_of_getElem? (i := 1150) (by decide +kernel)
def k_SR : List (Nat × Nat × Nat × Nat × Nat) := [(8, 31, 4, 0, 689), (8, 52, 1, 0, 703), (8, 59, 2, 0, 717), (8, 62, 3, 0, 719), (3, 91, 0, 1, 0), (7, 144, 0, 1, 1), (9, 66, 0, 1, 2)]
def k_SN : List (String × String × String) := [("CopperBoard", "OPPOSITE", "[I"), ("CopperBoard$Tape", "LETTERS", "[C"), ("CopperBoard$Tape", "LEAST", "[I"), ("CopperBoard$Tape", "MOST", "[I"), ("CopperBoard$Tape", "USUAL", "[I")]
def k_schk (q : Nat × Nat × Nat × Nat × Nat) : Bool := match q with
  | (o, i, j, ne, p) => match k_SN[j]? with
    | some z => match ne with
      | 0 => k_at p (.fieldLink (CN o) i z.1 z.2.1 z.2.2)
      | _ => decide (k_NW[p]? = some (.fieldLinkNest (CN o) i z.1 z.2.1 z.2.2 "CopperBoard"))
    | none => false
theorem k_SR_ok : ∀ q ∈ k_SR, k_schk q = true := List.all_eq_true.mp (by decide +kernel)
theorem k_cw0 : ((u_ws RX0 TX0 9).zip [588, 590, 592, 594, 596, 598, 600, 602, 604]).all (fun q => k_at q.2 q.1) = true := by decide +kernel
theorem k_cw1 : ((u_ws RX1 TX1 4).zip [496, 498, 500, 502]).all (fun q => k_at q.2 q.1) = true := by decide +kernel
theorem k_cw2 : ((u_ws RX2 TX2 9).zip [234, 236, 238, 240, 242, 244, 246, 248, 250]).all (fun q => k_at q.2 q.1) = true := by decide +kernel
theorem k_cw3 : ((u_ws RX3 TX3 15).zip [328, 330, 332, 334, 336, 338, 340, 342, 344, 346, 348, 350, 352, 354, 356]).all (fun q => k_at q.2 q.1) = true := by decide +kernel
theorem k_cw4 : ((u_ws RX4 TX4 5).zip [556, 558, 560, 562, 564]).all (fun q => k_at q.2 q.1) = true := by decide +kernel
theorem k_cw5 : ((u_ws RX5 TX5 6).zip [473, 475, 477, 479, 481, 483]).all (fun q => k_at q.2 q.1) = true := by decide +kernel
theorem k_cw6 : ((u_ws RX6 TX6 10).zip [387, 389, 391, 393, 395, 397, 399, 401, 403, 405]).all (fun q => k_at q.2 q.1) = true := by decide +kernel
theorem k_cw7 : ((u_ws RX7 TX7 15).zip [430, 432, 434, 436, 438, 440, 442, 444, 446, 448, 450, 452, 454, 456, 458]).all (fun q => k_at q.2 q.1) = true := by decide +kernel
theorem k_cw8 : ((u_ws RX8 TX8 6).zip [268, 270, 272, 274, 276, 278]).all (fun q => k_at q.2 q.1) = true := by decide +kernel
theorem k_cw9 : ((u_ws RX9 TX9 6).zip [619, 621, 623, 625, 627, 629]).all (fun q => k_at q.2 q.1) = true := by decide +kernel
theorem k_cw10 : ((u_ws RX10 TX10 11).zip [522, 524, 526, 528, 530, 532, 534, 536, 538, 540, 542]).all (fun q => k_at q.2 q.1) = true := by decide +kernel
theorem k_cw11 : ((u_ws RX11 TX11 11).zip [643, 645, 647, 649, 651, 653, 655, 657, 659, 661, 663]).all (fun q => k_at q.2 q.1) = true := by decide +kernel
theorem k_cw12 : ((u_ws RX12 TX12 54).zip [1575, 1577, 1579, 1581, 1583, 1585, 1587, 1589, 1591, 1593, 1595, 1597, 1599, 1601, 1603, 1605, 1607, 1609, 1611, 1613, 1615, 1617, 1619, 1621, 1623, 1625, 1627, 1629, 1631, 1633, 1635, 1637, 1639, 1641, 1643, 1645, 1647, 1649, 1651, 1653, 1655, 1657, 1659, 1661, 1663, 1665, 1667, 1669, 1671, 1673, 1675, 1677, 1679, 1681]).all (fun q => k_at q.2 q.1) = true := by decide +kernel
theorem k_cw_of {ws : List Cond} {ps : List Nat} (h : (ws.zip ps).all (fun q => k_at q.2 q.1) = true) (hl : ws.length = ps.length) : ∀ w ∈ ws, w ∈ TT := by
  intro w hw
  obtain ⟨i, hi⟩ := List.getElem?_of_mem hw
  have hlt : i < ps.length := by rw [← hl]; exact (List.getElem?_eq_some_iff.mp hi).1
  have hz : (ws.zip ps)[i]? = some (w, ps[i]) := by rw [List.getElem?_zip_eq_some]; exact ⟨hi, List.getElem?_eq_getElem hlt⟩
  exact k_at_in (List.all_eq_true.mp h _ (List.mem_of_getElem? hz))
theorem k_cls {ci : Nat} {q : vw_C} (h : cls[ci]? = some q) : ci ≤ 12 ∧ q.2.2 = k_nf ci ∧ q.2.1 = k_TX ci ∧ (∀ w ∈ u_ws q.1 q.2.1 q.2.2, w ∈ TT) ∧ (∀ k, k < q.2.2 → parseFieldDescriptor (q.2.1 k).2.2.1 = some (k_ty ci k)) ∧ (∀ a, a < q.2.2 → ∀ b, b < q.2.2 → a ≠ b → (q.2.1 a).2.1 ≠ (q.2.1 b).2.1) := by
  match ci, h with
  | 0, h => cases h; exact ⟨by decide, rfl, rfl, k_cw_of k_cw0 rfl, tyX0_ok, nmX0⟩
  | 1, h => cases h; exact ⟨by decide, rfl, rfl, k_cw_of k_cw1 rfl, tyX1_ok, nmX1⟩
  | 2, h => cases h; exact ⟨by decide, rfl, rfl, k_cw_of k_cw2 rfl, tyX2_ok, nmX2⟩
  | 3, h => cases h; exact ⟨by decide, rfl, rfl, k_cw_of k_cw3 rfl, tyX3_ok, nmX3⟩
  | 4, h => cases h; exact ⟨by decide, rfl, rfl, k_cw_of k_cw4 rfl, tyX4_ok, nmX4⟩
  | 5, h => cases h; exact ⟨by decide, rfl, rfl, k_cw_of k_cw5 rfl, tyX5_ok, nmX5⟩
  | 6, h => cases h; exact ⟨by decide, rfl, rfl, k_cw_of k_cw6 rfl, tyX6_ok, nmX6⟩
  | 7, h => cases h; exact ⟨by decide, rfl, rfl, k_cw_of k_cw7 rfl, tyX7_ok, nmX7⟩
  | 8, h => cases h; exact ⟨by decide, rfl, rfl, k_cw_of k_cw8 rfl, tyX8_ok, nmX8⟩
  | 9, h => cases h; exact ⟨by decide, rfl, rfl, k_cw_of k_cw9 rfl, tyX9_ok, nmX9⟩
  | 10, h => cases h; exact ⟨by decide, rfl, rfl, k_cw_of k_cw10 rfl, tyX10_ok, nmX10⟩
  | 11, h => cases h; exact ⟨by decide, rfl, rfl, k_cw_of k_cw11 rfl, tyX11_ok, nmX11⟩
  | 12, h => cases h; exact ⟨by decide, rfl, rfl, k_cw_of k_cw12 rfl, tyX12_ok, nmX12⟩
  | n + 13, h => simp [cls] at h
end
section
/-! the code words of the tables, by their places -/
set_option maxRecDepth 1000000 in
theorem k_CW_ok0 : k_MR_0.map (fun q => lw_tbl[q.2.1]?) = k_MR_0.map (fun q => some (Cond.code (MT q.1).1 (MT q.1).2.1 (MT q.1).2.2.1 (MT q.1).2.2.2)) := by rfl
set_option maxRecDepth 1000000 in
theorem k_CW_ok1 : k_MR_1.map (fun q => lw_tbl[q.2.1]?) = k_MR_1.map (fun q => some (Cond.code (MT q.1).1 (MT q.1).2.1 (MT q.1).2.2.1 (MT q.1).2.2.2)) := by rfl
set_option maxRecDepth 1000000 in
theorem k_CW_ok2 : k_MR_2.map (fun q => lw_tbl[q.2.1]?) = k_MR_2.map (fun q => some (Cond.code (MT q.1).1 (MT q.1).2.1 (MT q.1).2.2.1 (MT q.1).2.2.2)) := by rfl
set_option maxRecDepth 1000000 in
theorem k_CW_ok3 : k_MR_3.map (fun q => lw_tbl[q.2.1]?) = k_MR_3.map (fun q => some (Cond.code (MT q.1).1 (MT q.1).2.1 (MT q.1).2.2.1 (MT q.1).2.2.2)) := by rfl
set_option maxRecDepth 1000000 in
theorem k_CW_ok4 : k_MR_4.map (fun q => lw_tbl[q.2.1]?) = k_MR_4.map (fun q => some (Cond.code (MT q.1).1 (MT q.1).2.1 (MT q.1).2.2.1 (MT q.1).2.2.2)) := by rfl
set_option maxRecDepth 1000000 in
theorem k_CW_ok5 : k_MR_5.map (fun q => lw_tbl[q.2.1]?) = k_MR_5.map (fun q => some (Cond.code (MT q.1).1 (MT q.1).2.1 (MT q.1).2.2.1 (MT q.1).2.2.2)) := by rfl
theorem k_code_in {q : Nat × Nat × Nat × Nat × Nat × Nat} (h : q ∈ k_MR) : Cond.code (MT q.1).1 (MT q.1).2.1 (MT q.1).2.2.1 (MT q.1).2.2.2 ∈ TT := by
  have hw : lw_tbl[q.2.1]? = some (Cond.code (MT q.1).1 (MT q.1).2.1 (MT q.1).2.2.1 (MT q.1).2.2.2) := by
    simp only [k_MR, List.mem_append] at h
    rcases h with h | h
    · exact (List.map_inj_left.mp k_CW_ok0) q h
    rcases h with h | h
    · exact (List.map_inj_left.mp k_CW_ok1) q h
    rcases h with h | h
    · exact (List.map_inj_left.mp k_CW_ok2) q h
    rcases h with h | h
    · exact (List.map_inj_left.mp k_CW_ok3) q h
    rcases h with h | h
    · exact (List.map_inj_left.mp k_CW_ok4) q h
    exact (List.map_inj_left.mp k_CW_ok5) q h
  exact List.mem_filter.mpr ⟨List.mem_of_getElem? hw, rfl⟩
end
section
/-! Math.max, min, abs: links and words (written by wip/whole/gen04b.py) -/
def k_XN : Nat → MethodName := fun k => match k with
  | 0 => Lib.Math.max.name
  | 1 => Lib.Math.min.name
  | _ => Lib.Math.abs.name
def k_XR : List (Nat × Nat × Nat × Nat) := [(11, 255, 1, 175), (11, 258, 0, 178), (11, 171, 2, 780), (6, 83, 0, 822), (6, 98, 1, 832), (10, 126, 0, 1086), (9, 110, 0, 1350), (12, 3, 1, 1519), (12, 9, 0, 1520)]
def k_xchk (q : Nat × Nat × Nat × Nat) : Bool := match q with
  | (o, i, k, p) => k_at p (.methodLink (CN o) i (k_XN k))
theorem k_XR_ok : ∀ q ∈ k_XR, k_xchk q = true := List.all_eq_true.mp (by decide +kernel)
theorem k_xmax : Cond.static Lib.Math.max.name ∈ TT ∧ Cond.initialized "java/lang/Math" ∈ TT ∧ Cond.code Lib.Math.max.name Lib.Math.max.code 2 (some .int) ∈ TT := by
  refine ⟨k_at_in (p := 179) (by decide +kernel), k_at_in (p := 142) (by decide +kernel), ?_⟩
  have hm : (320, 180, 142, 0, 179, 9999) ∈ k_MR := by decide +kernel
  have := k_code_in hm
  have e1 : (MT 320).1 = Lib.Math.max.name := by decide +kernel
  have e2 : (MT 320).2.1 = Lib.Math.max.code := by decide +kernel
  have e3 : (MT 320).2.2.1 = 2 := by decide +kernel
  have e4 : (MT 320).2.2.2 = some .int := by decide +kernel
  simp only at this
  rw [e1, e2, e3, e4] at this
  exact this
theorem k_xmin : Cond.static Lib.Math.min.name ∈ TT ∧ Cond.initialized "java/lang/Math" ∈ TT ∧ Cond.code Lib.Math.min.name Lib.Math.min.code 2 (some .int) ∈ TT := by
  refine ⟨k_at_in (p := 176) (by decide +kernel), k_at_in (p := 142) (by decide +kernel), ?_⟩
  have hm : (321, 177, 142, 0, 176, 9999) ∈ k_MR := by decide +kernel
  have := k_code_in hm
  have e1 : (MT 321).1 = Lib.Math.min.name := by decide +kernel
  have e2 : (MT 321).2.1 = Lib.Math.min.code := by decide +kernel
  have e3 : (MT 321).2.2.1 = 2 := by decide +kernel
  have e4 : (MT 321).2.2.2 = some .int := by decide +kernel
  simp only at this
  rw [e1, e2, e3, e4] at this
  exact this
theorem k_xabs : Cond.static Lib.Math.abs.name ∈ TT ∧ Cond.initialized "java/lang/Math" ∈ TT ∧ Cond.code Lib.Math.abs.name Lib.Math.abs.code 1 (some .int) ∈ TT := by
  refine ⟨k_at_in (p := 781) (by decide +kernel), k_at_in (p := 142) (by decide +kernel), ?_⟩
  have hm : (319, 782, 142, 0, 781, 9999) ∈ k_MR := by decide +kernel
  have := k_code_in hm
  have e1 : (MT 319).1 = Lib.Math.abs.name := by decide +kernel
  have e2 : (MT 319).2.1 = Lib.Math.abs.code := by decide +kernel
  have e3 : (MT 319).2.2.1 = 1 := by decide +kernel
  have e4 : (MT 319).2.2.2 = some .int := by decide +kernel
  simp only at this
  rw [e1, e2, e3, e4] at this
  exact this
end
section
/-! whole numbers as the machine has them -/
abbrev inR (x : Int) : Prop := -2147483648 ≤ x ∧ x ≤ 2147483647
def w32 (x : Int) : Int := (x + 2147483648) % 4294967296 - 2147483648
theorem k_toInt (x : Int) : (Int32.ofInt x).toInt = w32 x := by
  rw [Int32.toInt_ofInt]
  unfold w32
  simp only [Int32.size, Int.bmod]
  split <;> omega
theorem w32_in (x : Int) : inR (w32 x) := by unfold w32; constructor <;> omega
theorem w32_id {x : Int} (h : inR x) : w32 x = x := by unfold w32; obtain ⟨h1, h2⟩ := h; omega
theorem k_toInt_in {x : Int} (h : inR x) : (Int32.ofInt x).toInt = x := by rw [k_toInt, w32_id h]
theorem k_ofInt_w (x : Int) : Int32.ofInt (w32 x) = Int32.ofInt x := by
  apply Int32.toInt_inj.mp
  rw [k_toInt, k_toInt, w32_id (w32_in x)]
theorem k_in_toInt (z : Int32) : inR z.toInt := by
  have h1 := Int32.le_toInt z
  have h2 := Int32.toInt_lt z
  constructor <;> omega
theorem k_ofInt_toInt (z : Int32) : Int32.ofInt z.toInt = z := Int32.ofInt_toInt z
theorem k_lt {x y : Int} (hx : inR x) (hy : inR y) : Int32.ofInt x < Int32.ofInt y ↔ x < y := by
  rw [Int32.lt_iff_toInt_lt, k_toInt_in hx, k_toInt_in hy]
theorem k_le {x y : Int} (hx : inR x) (hy : inR y) : Int32.ofInt x ≤ Int32.ofInt y ↔ x ≤ y := by
  rw [Int32.le_iff_toInt_le, k_toInt_in hx, k_toInt_in hy]
theorem k_eq {x y : Int} (hx : inR x) (hy : inR y) : Int32.ofInt x = Int32.ofInt y ↔ x = y := by
  constructor
  · intro h
    have := congrArg Int32.toInt h
    rwa [k_toInt_in hx, k_toInt_in hy] at this
  · intro h; rw [h]
theorem k_zero : Int32.ofInt 0 = 0 := by decide
theorem k_inR0 : inR 0 := by constructor <;> omega
def kand (x y : Int) : Int := (Int32.ofInt x &&& Int32.ofInt y).toInt
def kor (x y : Int) : Int := (Int32.ofInt x ||| Int32.ofInt y).toInt
def kxor (x y : Int) : Int := (Int32.ofInt x ^^^ Int32.ofInt y).toInt
def kshl (x y : Int) : Int := (Int32.ofInt x <<< (Int32.ofInt y &&& 31)).toInt
def kshr (x y : Int) : Int := (Int32.ofInt x >>> (Int32.ofInt y &&& 31)).toInt
def kushr (x y : Int) : Int := ((Int32.ofInt x).toUInt32 >>> ((Int32.ofInt y).toUInt32 &&& Int32.toUInt32 31)).toInt32.toInt
theorem k_clamp {x : Int} (h : inR x) : (Int32.ofInt x).toNatClampNeg = x.toNat := by
  show (Int32.ofInt x).toInt.toNat = x.toNat
  rw [k_toInt_in h]
theorem k_vpin {x : Int} {n : Nat} (hx : inR x) (h0 : 0 ≤ x) (h1 : x < n) : vp_in (Int32.ofInt x) n := by
  rw [vp_in_iff, k_toInt_in hx]; exact ⟨h0, h1⟩
theorem k_ofNat (n : Nat) : Int32.ofNat n = Int32.ofInt (n : Int) := by
  rfl
theorem k_div {x y : Int} (hx : inR x) (hy : inR y) : Int32.ofInt x / Int32.ofInt y = Int32.ofInt (x.tdiv y) := by
  apply Int32.toInt_inj.mp
  rw [Int32.toInt_div, k_toInt_in hx, k_toInt_in hy, Int32.toInt_ofInt]
theorem k_rem {x y : Int} (hx : inR x) (hy : inR y) : Int32.ofInt x - Int32.ofInt x / Int32.ofInt y * Int32.ofInt y = Int32.ofInt (x.tmod y) := by
  rw [k_div hx hy, ← Int32.ofInt_mul, ← Int32.ofInt_sub]
  congr 1
  have := Int.mul_tdiv_add_tmod x y
  rw [Int.mul_comm] at this
  omega
theorem k_tmod_in {x y : Int} (hx : inR x) (hy : inR y) (h0 : y ≠ 0) : inR (x.tmod y) := by
  rw [Int.tmod_eq_emod]
  obtain ⟨a, b⟩ := hx
  obtain ⟨c, d⟩ := hy
  have h1 := Int.emod_nonneg x h0
  have h2 := Int.emod_lt x h0
  split <;> constructor <;> omega
theorem k_ofInt_neg (x : Int) : -Int32.ofInt x = Int32.ofInt (-x) := by
  rw [← Int32.ofInt_neg]
end
section
/-! the machine over numbered objects: values, memory, code as data, what must hold for a run to end well -/
abbrev AV : Type := Int ⊕ (Nat ⊕ Int)
abbrev vI (x : Int) : AV := Sum.inl x
abbrev vR (o : Nat) : AV := Sum.inr (Sum.inl o)
abbrev vL (x : Int) : AV := Sum.inr (Sum.inr x)
abbrev Mem : Type := Nat → Int → Int
abbrev Ob : Type := (Nat × List (Option Nat)) ⊕ (Nat × Nat)
abbrev Gr : Type := List Ob
abbrev Ro : Type := List (Nat × Nat × (Int → Int))
abbrev AI : Type := Instr × Nat × List Nat
abbrev KL : Type := List (Option AV)
abbrev CB : Type := List (Nat × List AI)
def mset (m : Mem) (o : Nat) (i v : Int) : Mem := fun p => if p = o then (fun j => if j = i then v else m o j) else m p
def mcpy (m : Mem) (src : Nat) (sp : Int) (dst : Nat) (dp n : Int) : Mem := fun p => if p = dst then (fun j => if dp ≤ j ∧ j < dp + n then m src (sp + (j - dp)) else m dst j) else m p
def fld (m : Mem) (o k : Nat) : Int := m o (k : Int)
def fset (m : Mem) (o k : Nat) (v : Int) : Mem := mset m o (k : Int) v
def k_get : KL → Nat → (AV → Prop) → Prop
  | some v :: _, 0, K => K v
  | _ :: l, n + 1, K => k_get l n K
  | _, _, _ => False
def k_set : KL → Nat → AV → (KL → Prop) → Prop
  | _ :: l, 0, v, K => K (some v :: l)
  | a :: l, n + 1, v, K => k_set l n v (fun l' => K (a :: l'))
  | [], _, _, _ => False
def k_pop : Nat → List AV → List AV → (List AV → List AV → Prop) → Prop
  | 0, S, acc, K => K acc S
  | n + 1, v :: S, acc, K => k_pop n S (v :: acc) K
  | _ + 1, [], _, _ => False
def k_1 : List Nat → (Nat → Prop) → Prop
  | a :: _, K => K a
  | [], _ => False
def k_2 : List Nat → (Nat → Nat → Prop) → Prop
  | a :: b :: _, K => K a b
  | _, _ => False
def k_3 : List Nat → (Nat → Nat → Nat → Prop) → Prop
  | a :: b :: c :: _, K => K a b c
  | _, _ => False
def k_int : AV → (Int → Prop) → Prop
  | .inl a, K => K a
  | _, _ => False
def k_ref : AV → (Nat → Prop) → Prop
  | .inr (.inl a), K => K a
  | _, _ => False
def k_un : List AV → (Int → List AV → Prop) → Prop
  | .inl a :: S, K => K a S
  | _, _ => False
def k_bin : List AV → (Int → Int → List AV → Prop) → Prop
  | .inl b :: .inl a :: S, K => K a b S
  | _, _ => False
def k_ob : List AV → (Nat → List AV → Prop) → Prop
  | .inr (.inl o) :: S, K => K o S
  | _, _ => False
def k_if (b : Bool) (P : Prop) : Prop := match b with
  | true => P
  | false => False
def k_obj (G : Gr) (o ci : Nat) (K : List (Option Nat) → Prop) : Prop := match G[o]? with
  | some (.inl (c, rs)) => k_if (Nat.beq c ci) (K rs)
  | _ => False
def k_wr (G : Gr) (o ty : Nat) (K : Nat → Prop) : Prop := match G[o]? with
  | some (.inr (t, n)) => k_if (Nat.beq t ty) (K n)
  | _ => False
def k_rd (G : Gr) (RO : Ro) (m : Mem) (o ty : Nat) (K : Nat → (Int → Int) → Prop) : Prop := match Nat.blt o 1000 with
  | true => k_wr G o ty (fun n => K n (m o))
  | false => match RO[o - 1000]? with
    | some (t, n, f) => k_if (Nat.beq t ty) (K n f)
    | none => False
def k_len (G : Gr) (RO : Ro) (o : Nat) (K : Nat → Prop) : Prop := match Nat.blt o 1000 with
  | true => match G[o]? with
    | some (.inr (_, n)) => K n
    | _ => False
  | false => match RO[o - 1000]? with
    | some (_, n, _) => K n
    | none => False
def k_br (c : ClassFile.Cond) (a b : Int) (X Y : Prop) : Prop := match c with
  | .eq => (a = b → X) ∧ (¬ a = b → Y)
  | .ne => (¬ a = b → X) ∧ (a = b → Y)
  | .lt => (a < b → X) ∧ (b ≤ a → Y)
  | .ge => (b ≤ a → X) ∧ (a < b → Y)
  | .gt => (b < a → X) ∧ (a ≤ b → Y)
  | .le => (a ≤ b → X) ∧ (b < a → Y)
def k_cases (v : Int) : Int → List Nat → (Nat → Prop) → Prop
  | _, [], _ => True
  | lo, b :: bs, K => (v = lo → K b) ∧ k_cases v (lo + 1) bs K
def k_cat : AV → Nat
  | .inl _ => 1
  | .inr (.inl _) => 1
  | .inr (.inr _) => 2
def k_push : Option AV → List AV → List AV
  | some v, S => v :: S
  | none, S => S
def k_ar (x : List Nat) (z : Int) (K : Int → Prop) : Prop := match x with
  | [] => inR z ∧ K z
  | _ => K (w32 z)
def k_math (k : Nat) (S : List AV) (K : List AV → Prop) : Prop := match k with
  | 0 => k_bin S (fun a b S => k_if (Nat.ble (S.map k_cat).sum 8) (K (vI (max a b) :: S)))
  | 1 => k_bin S (fun a b S => k_if (Nat.ble (S.map k_cat).sum 8) (K (vI (min a b) :: S)))
  | 2 => k_un S (fun a S => inR (-a) ∧ k_if (Nat.ble (S.map k_cat).sum 8) (K (vI (max a (-a)) :: S)))
  | _ => False
section KE
variable (G : Gr) (RO : Ro) (J : Nat → KL → List AV → Mem → Prop) (C : Nat → List AV → Mem → (Option AV → Mem → Prop) → Prop) (T : Option AV → Mem → Prop)
def k_call (x : List Nat) (S : List AV) (m : Mem) (K : List AV → Mem → Prop) : Prop :=
  k_2 x (fun n na => k_pop na S [] (fun as S => k_if (Nat.ble (S.map k_cat).sum 8) (C n as m (fun r m' => K (k_push r S) m'))))
def k_callv (x : List Nat) (S : List AV) (m : Mem) (K : List AV → Mem → Prop) : Prop :=
  k_3 x (fun n na ci => k_pop na S [] (fun as S => match as with
    | .inr (.inl o) :: _ => k_obj G o ci (fun _ => k_if (Nat.ble (S.map k_cat).sum 8) (C n as m (fun r m' => K (k_push r S) m')))
    | _ => False))
def k_exec : List AI → KL → List AV → Mem → Prop
  | [], _, _, _ => False
  | (i, _, x) :: r, L, S, m =>
    match i with
    | .nop => k_1 x (fun b => J b L S m)
    | .iconst n => k_exec r L (vI n :: S) m
    | .bipush n => k_exec r L (vI n :: S) m
    | .sipush n => k_exec r L (vI n :: S) m
    | .ldc _ => k_1 x (fun v => k_exec r L (vI (v : Int) :: S) m)
    | .ldc_w _ => k_1 x (fun v => k_exec r L (vI (v : Int) :: S) m)
    | .iload_n k => k_get L k.val (fun v => k_int v (fun a => k_exec r L (vI a :: S) m))
    | .iload k => k_get L k (fun v => k_int v (fun a => k_exec r L (vI a :: S) m))
    | .aload_n k => k_get L k.val (fun v => k_ref v (fun a => k_exec r L (vR a :: S) m))
    | .aload k => k_get L k (fun v => k_ref v (fun a => k_exec r L (vR a :: S) m))
    | .istore_n k => k_un S (fun a S => k_set L k.val (vI a) (fun L => k_exec r L S m))
    | .istore k => k_un S (fun a S => k_set L k (vI a) (fun L => k_exec r L S m))
    | .astore_n k => k_ob S (fun a S => k_set L k.val (vR a) (fun L => k_exec r L S m))
    | .astore k => k_ob S (fun a S => k_set L k (vR a) (fun L => k_exec r L S m))
    | .iinc k n => k_get L k (fun v => k_int v (fun a => inR (a + n) ∧ k_set L k (vI (a + n)) (fun L => k_exec r L S m)))
    | .iadd => k_bin S (fun a b S => k_ar x (a + b) (fun z => k_exec r L (vI z :: S) m))
    | .isub => k_bin S (fun a b S => k_ar x (a - b) (fun z => k_exec r L (vI z :: S) m))
    | .imul => k_bin S (fun a b S => k_ar x (a * b) (fun z => k_exec r L (vI z :: S) m))
    | .ineg => k_un S (fun a S => k_ar x (-a) (fun z => k_exec r L (vI z :: S) m))
    | .idiv => k_bin S (fun a b S => ¬ b = 0 ∧ inR (a.tdiv b) ∧ k_exec r L (vI (a.tdiv b) :: S) m)
    | .irem => k_bin S (fun a b S => ¬ b = 0 ∧ k_exec r L (vI (a.tmod b) :: S) m)
    | .iand => k_bin S (fun a b S => k_exec r L (vI (kand a b) :: S) m)
    | .ior => k_bin S (fun a b S => k_exec r L (vI (kor a b) :: S) m)
    | .ixor => k_bin S (fun a b S => k_exec r L (vI (kxor a b) :: S) m)
    | .ishl => k_bin S (fun a b S => k_exec r L (vI (kshl a b) :: S) m)
    | .ishr => k_bin S (fun a b S => k_exec r L (vI (kshr a b) :: S) m)
    | .iushr => k_bin S (fun a b S => k_exec r L (vI (kushr a b) :: S) m)
    | .dup => match S with
      | .inl a :: S => k_exec r L (vI a :: vI a :: S) m
      | .inr (.inl a) :: S => k_exec r L (vR a :: vR a :: S) m
      | _ => False
    | .dup2 => match S with
      | .inl b :: .inr (.inl a) :: S => k_exec r L (vI b :: vR a :: vI b :: vR a :: S) m
      | _ => False
    | .pop => match S with
      | .inl _ :: S => k_exec r L S m
      | .inr (.inl _) :: S => k_exec r L S m
      | _ => False
    | .getfield _ => k_ob S (fun o S => k_3 x (fun ci k t => k_obj G o ci (fun rs => match t with
      | 1 => match rs[k]? with
        | some (some q) => k_exec r L (vR q :: S) m
        | _ => False
      | _ => k_exec r L (vI (fld m o k) :: S) m)))
    | .putfield _ => k_un S (fun v S => k_ob S (fun o S => k_3 x (fun ci k t => k_obj G o ci (fun _ => match t with
      | 0 => k_exec r L S (fset m o k v)
      | 2 => (v = 0 ∨ v = 1) ∧ k_exec r L S (fset m o k v)
      | _ => False))))
    | .getstatic _ => k_1 x (fun j => k_exec r L (vR (1000 + j) :: S) m)
    | .iaload => k_un S (fun i S => k_ob S (fun o S => k_rd G RO m o 0 (fun n f => (0 ≤ i ∧ i < (n : Int)) ∧ k_exec r L (vI (f i) :: S) m)))
    | .baload => k_un S (fun i S => k_ob S (fun o S => k_rd G RO m o 1 (fun n f => (0 ≤ i ∧ i < (n : Int)) ∧ k_exec r L (vI (f i) :: S) m)))
    | .caload => k_un S (fun i S => k_ob S (fun o S => k_rd G RO m o 3 (fun n f => (0 ≤ i ∧ i < (n : Int)) ∧ k_exec r L (vI (f i) :: S) m)))
    | .iastore => k_bin S (fun i v S => k_ob S (fun o S => k_wr G o 0 (fun n => (0 ≤ i ∧ i < (n : Int)) ∧ k_exec r L S (mset m o i v))))
    | .bastore => k_bin S (fun i v S => k_ob S (fun o S => k_wr G o 1 (fun n => (0 ≤ i ∧ i < (n : Int)) ∧ (v = 0 ∨ v = 1) ∧ k_exec r L S (mset m o i v))))
    | .arraylength => k_ob S (fun o S => k_len G RO o (fun n => k_exec r L (vI (n : Int) :: S) m))
    | .goto _ => k_1 x (fun b => J b L S m)
    | .ifCond c _ => k_1 x (fun b => k_un S (fun a S => k_br c a 0 (J b L S m) (k_exec r L S m)))
    | .if_icmp c _ => k_1 x (fun b => k_bin S (fun a z S => k_br c a z (J b L S m) (k_exec r L S m)))
    | .tableswitch _ lo hi _ => match x with
      | b :: bs => k_un S (fun v S => (v < lo ∨ hi < v → J b L S m) ∧ k_cases v lo bs (fun b => J b L S m))
      | [] => False
    | .invokevirtual _ => k_callv G C x S m (fun S m => k_exec r L S m)
    | .invokestatic _ => match x with
      | [] => match S with
        | .inl n :: .inl dp :: .inr (.inl d) :: .inl sp :: .inr (.inl a) :: S => k_wr G a 0 (fun na => k_wr G d 0 (fun nd => ((0 ≤ n ∧ 0 ≤ dp ∧ 0 ≤ sp) ∧ sp + n ≤ (na : Int) ∧ dp + n ≤ (nd : Int)) ∧ k_if (Nat.ble (S.map k_cat).sum 8) (k_exec r L S (mcpy m a sp d dp n))))
        | _ => False
      | [k] => k_math k S (fun S => k_exec r L S m)
      | _ => k_call C x S m (fun S m => k_exec r L S m)
    | .ireturn => k_un S (fun a S => match S with
      | [] => T (some (vI a)) m
      | _ => False)
    | .return_ => match S with
      | [] => T none m
      | _ => False
    | _ => False
def k_mem : Nat → List Nat → Bool
  | _, [] => false
  | a, b :: l => match Nat.beq a b with
    | true => true
    | false => k_mem a l
def k_blk (P : CB) (cuts : List Nat) (A : Nat → KL → List AV → Mem → Prop) : Nat → Nat → KL → List AV → Mem → Prop
  | 0, _, _, _, _ => False
  | f + 1, b, L, S, m => match k_mem b cuts with
    | true => A b L S m
    | false => match P[b]? with
      | some q => k_exec G RO (k_blk P cuts A f) C T q.2 L S m
      | none => False
def k_go (P : CB) (cuts : List Nat) (A : Nat → KL → List AV → Mem → Prop) (f b : Nat) (L : KL) (S : List AV) (m : Mem) : Prop := match P[b]? with
  | some q => k_exec G RO (k_blk G RO C T P cuts A f) C T q.2 L S m
  | none => False
end KE
end
section
/-! what the heap holds of the memory, and what it means that the machine ends well -/
abbrev Ev : Type := Launch × va_G × (Nat → ClassId) × Gr × Ro
abbrev Md : Type := Nat × Nat × Nat × Option FieldType × CB
def rv (ad : Nat → Nat) : AV → Value
  | .inl x => .int (Int32.ofInt x)
  | .inr (.inl o) => .ref (ad o)
  | .inr (.inr x) => .long (Int64.ofInt x)
def k_fv (ad : Nat → Nat) (m : Mem) (o ci : Nat) (rs : List (Option Nat)) (k : Nat) : Value :=
  if k_tc (k_ty ci k) = 1 then (match rs[k]? with | some (some q) => .ref (ad q) | _ => .null) else .int (Int32.ofInt (fld m o k))
def k_ent (cA : Nat → ClassId) (ad : Nat → Nat) (m : Mem) (o : Nat) : Ob → Nat × va_E
  | .inl (ci, rs) => (ad o, .inr (ci, (List.range (k_nf ci)).map (k_fv ad m o ci rs)))
  | .inr (ty, n) => (ad o, .inl (cA ty, n, if ty = 2 then .inr (.inl (fun i => Int64.ofInt (m o (i : Int)))) else .inl (fun i => Int32.ofInt (m o (i : Int)))))
def k_wl (cA : Nat → ClassId) (ad : Nat → Nat) (m : Mem) (G : Gr) : va_W := G.mapIdx (fun o d => k_ent cA ad m o d)
def k_tys (cA : Nat → ClassId) : List (ClassId × FieldType) := [(cA 0, .int), (cA 1, .boolean), (cA 2, .long)]
theorem k_wl_at {cA : Nat → ClassId} {ad : Nat → Nat} {m : Mem} {G : Gr} {o : Nat} {d : Ob} (h : G[o]? = some d) : (k_wl cA ad m G)[o]? = some (k_ent cA ad m o d) := by
  unfold k_wl
  rw [List.getElem?_mapIdx, h]; rfl
theorem k_ent_cong {cA : Nat → ClassId} {ad : Nat → Nat} {m m' : Mem} {o : Nat} (h : m' o = m o) (d : Ob) : k_ent cA ad m' o d = k_ent cA ad m o d := by
  have hf : ∀ ci rs k, k_fv ad m' o ci rs k = k_fv ad m o ci rs k := fun ci rs k => by unfold k_fv fld; rw [h]
  cases d with
  | inl q =>
    obtain ⟨ci, rs⟩ := q
    unfold k_ent
    simp only
    rw [show k_fv ad m' o ci rs = k_fv ad m o ci rs from funext (hf ci rs)]
  | inr q =>
    obtain ⟨ty, n⟩ := q
    unfold k_ent
    simp only [h]
theorem k_wl_upd {cA : Nat → ClassId} {ad : Nat → Nat} {m m' : Mem} {G : Gr} {o : Nat} {d : Ob} (hG : G[o]? = some d) (h : ∀ p, p ≠ o → m' p = m p) : k_wl cA ad m' G = (k_wl cA ad m G).set o (k_ent cA ad m' o d) := by
  apply List.ext_getElem?
  intro j
  have ho : o < G.length := (List.getElem?_eq_some_iff.mp hG).1
  by_cases hj : j = o
  · subst hj
    rw [k_wl_at hG, List.getElem?_set_self (by unfold k_wl; rw [List.length_mapIdx]; exact ho)]
  · rw [List.getElem?_set_ne (Ne.symm hj)]
    unfold k_wl
    rw [List.getElem?_mapIdx, List.getElem?_mapIdx]
    cases G[j]? with
    | none => rfl
    | some d => exact congrArg some (k_ent_cong (h j hj) d)
def kHp (E : Ev) (ad : Nat → Nat) (A : Nat → Prop) (m : Mem) (H : Heap) : Prop := va_P E.2.1 cls (k_wl E.2.2.1 ad m E.2.2.2.1) H ∧ va_D A (k_wl E.2.2.1 ad m E.2.2.2.1) ∧ ∀ o i, inR (m o i)
def kRo (E : Ev) (ad : Nat → Nat) (A : Nat → Prop) (s : State) (H : Heap) : Prop :=
  (∀ (j : Nat) (q : String × String × String), k_SN[j]? = some q → va_Z q.1 q.2.1 q.2.2 (.ref (ad (1000 + j))) A s H) ∧
  (∀ (j : Nat) (t : Nat × Nat × (Int → Int)), E.2.2.2.2[j]? = some t → ((t.1 = 0 ∧ va_T .int (ad (1000 + j)) t.2.1 (fun i => .int (Int32.ofInt (t.2.2 (i : Int)))) A s H) ∨ (t.1 = 3 ∧ va_T .char (ad (1000 + j)) t.2.1 (fun i => .int (Int32.ofInt (t.2.2 (i : Int)))) A s H)) ∧ (∀ i, inR (t.2.2 i)) ∧ t.2.1 ≤ 2147483647) ∧
  ∀ w ∈ k_NW, va_Nw w s
def kLen (G : Gr) : Prop := ∀ (o t n : Nat), G[o]? = some (.inr (t, n)) → n ≤ 2147483647 ∧ t ≤ 2
def kV : AV → Prop
  | .inl x => inR x
  | .inr (.inl _) => True
  | .inr (.inr _) => False
def k_lv (ad : Nat → Nat) (L : KL) : List (Nat × Value) := (List.range L.length).filterMap (fun i => match L[i]? with
  | some (some v) => some (i, rv ad v)
  | _ => none)
def kLs (ad : Nat → Nat) (ls : Array Slot) (n : Nat) (L : KL) : Prop := lv_has ls n (k_lv ad L) ∧ L.length = n ∧ ∀ v, some v ∈ L → kV v
def k_rm (h : Nat) : Room := { frames := h, cells := 0, slots := 0, locals := 40 * h }
def kAd (E : Ev) (ad : Nat → Nat) : Nat → Prop := fun q => ∃ o, o < E.2.2.2.1.length ∧ q = ad o
/-- a method, called with these values on this memory, ends with an answer and a memory of which Q holds -/
def kCall (E : Ev) (h n : Nat) (as : List AV) (m : Mem) (Q0 : Option AV → Mem → Prop) : Prop := ∀ (h' : Nat), h ≤ h' → ∀ (Q : Option AV → Mem → Prop), (∀ r m', Q0 r m' → Q r m') → ∀ (ad : Nat → Nat), (∀ v ∈ as, kV v) →
  Met E.1 (MT n).1 (Cond.code (MT n).1 (MT n).2.1 (MT n).2.2.1 (MT n).2.2.2 :: TT) (k_rm h')
    (va_Pc (as.map (rv ad)) (fun U => kHp E ad (kAd E ad) m U.heap ∧ va_K E.2.1 cls (k_tys E.2.2.1) U ∧ kRo E ad (kAd E ad) U U.heap ∧ kLen E.2.2.2.1))
    (fun _ st oc t => (∃ (r : Option AV) (m' : Mem), oc = .returned (r.map (rv ad)) ∧ Q r m' ∧ kHp E ad (kAd E ad) m' t.heap ∧ ∀ v, r = some v → kV v) ∧ va_F (kAd E ad) st t) 0 0 (kAd E ad)
def k_T (ret : Option FieldType) (Q : Option AV → Mem → Prop) (r : Option AV) (m : Mem) : Prop := match ret with
  | none => match r with
    | none => Q none m
    | _ => False
  | some .int => match r with
    | some (.inl a) => Q (some (vI a)) m
    | _ => False
  | some .boolean => match r with
    | some (.inl a) => (a = 0 ∨ a = 1) ∧ Q (some (vI a)) m
    | _ => False
  | _ => False
section KX
variable (E : Ev) (h : Nat) (M : Md) (T : Option AV → Mem → Prop) (p : Program) (e : Env) (R : Room) (s : State) (mm : MethodId) (args : Array Value) (below : List Frame) (meth : Method) (c : Code) (cells slots : Nat) (Qf : State → Prop) (ad : Nat → Nat) (A : Nat → Prop)
def kX : Prop :=
  p.tables.exec = Jvm.exec ∧ c.code = (MT M.1).2.1 ∧ c.maxLocals = M.2.2.1 ∧ s.vm.findClass (CN M.2.1) = some mm.cls ∧ (∀ w ∈ TT, w.before args s = true) ∧ h + 1 ≤ R.frames ∧ 40 * (h + 1) ≤ R.locals ∧ cells ≤ R.cells ∧ slots ≤ R.slots ∧ va_K E.2.1 cls (k_tys E.2.2.1) s ∧ kRo E ad A s s.heap ∧ (∀ o, o < E.2.2.2.1.length → A (ad o)) ∧ kLen E.2.2.2.1 ∧
  (∀ (r : Option AV) (m : Mem) (H : Heap) (locs : List Loc) (ls : Array Slot) (pc : Nat), T r m → kHp E ad A m H → va_S A s.heap H locs → (match r with
    | none => decode (MT M.1).2.1 pc = .ok (.return_, 1)
    | some (.inl a) => inR a ∧ decode (MT M.1).2.1 pc = .ok (.ireturn, 1)
    | _ => False) → W p E.1 e R s mm args below meth c H locs cells slots Qf (F0 mm pc ls (match r with
    | none => []
    | some v => [rv ad v])))
def kWW (pc : Nat) (L : KL) (S : List AV) (m : Mem) : Prop := ∀ (H : Heap) (locs : List Loc) (ls : Array Slot), kHp E ad A m H → va_S A s.heap H locs → kLs ad ls M.2.2.1 L → (∀ v ∈ S, kV v) → W p E.1 e R s mm args below meth c H locs cells slots Qf (F0 mm pc ls (S.map (rv ad)))
end KX
def k_pc (M : Md) (b : Nat) : Nat := (M.2.2.2.2.getD b (0, [])).1
/-- the method's body, from this block on with these locals, stack and memory, comes to a return of which T holds -/
def kW (E : Ev) (h : Nat) (M : Md) (T : Option AV → Mem → Prop) (b : Nat) (L : KL) (S : List AV) (m : Mem) : Prop :=
  ∀ (p : Program) (e : Env) (R : Room) (s : State) (mm : MethodId) (args : Array Value) (below : List Frame) (meth : Method) (c : Code) (cells slots : Nat) (Qf : State → Prop) (ad : Nat → Nat) (A : Nat → Prop), kX E h M T p e R s mm args below meth c cells slots Qf ad A → kWW E M p e R s mm args below meth c cells slots Qf ad A (k_pc M b) L S m
def k_dc (bts : ByteArray) (pc : Nat) (i : Instr) (len n : Nat) : Bool := decide (decode bts pc = .ok (i, len)) && Nat.beq len n
def k_tg (pcs : List Nat) (b pc : Nat) (off : Int) : Bool := match pcs[b]? with
  | some t => decide ((pc : Int) + off = (t : Int))
  | none => false
def k_tgs (pcs : List Nat) (pc : Nat) : List Nat → List Int → Bool
  | [], [] => true
  | b :: bs, f :: fs => k_tg pcs b pc f && k_tgs pcs pc bs fs
  | _, _ => false
def k_okI (o : Nat) (pcs : List Nat) (bts : ByteArray) (pc : Nat) (i : Instr) (len : Nat) (x : List Nat) : Bool := match i with
  | .nop => Nat.beq len 0 && (match x with
    | b :: _ => k_tg pcs b pc 0
    | [] => false)
  | .iconst n => k_dc bts pc i len 1 && decide (inR n)
  | .bipush n => k_dc bts pc i len 2 && decide (inR n ∧ (Int8.ofInt n).toInt32 = Int32.ofInt n)
  | .sipush n => k_dc bts pc i len 3 && decide (inR n ∧ (Int16.ofInt n).toInt32 = Int32.ofInt n)
  | .ldc j => k_dc bts pc i len 2 && (match x with
    | v :: _ => k_KR.any (fun q => Nat.beq q.1 o && (Nat.beq q.2.1 j && Nat.beq q.2.2.1 v))
    | [] => false)
  | .ldc_w j => k_dc bts pc i len 3 && (match x with
    | v :: _ => k_KR.any (fun q => Nat.beq q.1 o && (Nat.beq q.2.1 j && Nat.beq q.2.2.1 v))
    | [] => false)
  | .iload _ => k_dc bts pc i len 2
  | .aload _ => k_dc bts pc i len 2
  | .istore _ => k_dc bts pc i len 2
  | .astore _ => k_dc bts pc i len 2
  | .iinc _ _ => k_dc bts pc i len 3
  | .getfield j => k_dc bts pc i len 3 && (match x with
    | ci :: k :: t :: _ => k_FR.any (fun q => Nat.beq q.1 o && (Nat.beq q.2.1 j && (Nat.beq q.2.2.1 ci && (Nat.beq q.2.2.2.1 k && Nat.beq q.2.2.2.2.1 t))))
    | _ => false)
  | .putfield j => k_dc bts pc i len 3 && (match x with
    | ci :: k :: t :: _ => k_FR.any (fun q => Nat.beq q.1 o && (Nat.beq q.2.1 j && (Nat.beq q.2.2.1 ci && (Nat.beq q.2.2.2.1 k && (Nat.beq q.2.2.2.2.1 t && !(k_TX ci k).2.2.2)))))
    | _ => false)
  | .getstatic j => k_dc bts pc i len 3 && (match x with
    | b :: _ => k_SR.any (fun q => Nat.beq q.1 o && (Nat.beq q.2.1 j && Nat.beq q.2.2.1 b))
    | [] => false)
  | .goto f => k_dc bts pc i len 3 && (match x with
    | b :: _ => k_tg pcs b pc f
    | [] => false)
  | .ifCond _ f => k_dc bts pc i len 3 && (match x with
    | b :: _ => k_tg pcs b pc f
    | [] => false)
  | .if_icmp _ f => k_dc bts pc i len 3 && (match x with
    | b :: _ => k_tg pcs b pc f
    | [] => false)
  | .tableswitch d lo hi fs => k_dc bts pc i len len && (match x with
    | b :: bs => k_tg pcs b pc d && (k_tgs pcs pc bs fs.toList && decide ((fs.toList.length : Int) = hi - lo + 1))
    | [] => false)
  | .invokevirtual j => k_dc bts pc i len 3 && (match x with
    | n :: na :: ci :: _ => decide ((MT n).1.cls = CN ci) && k_LR.any (fun q => Nat.beq q.1 o && (Nat.beq q.2.1 j && (Nat.beq q.2.2.1 n && Nat.beq (q.2.2.2.1 + 1) na))) && k_MR.any (fun r => Nat.beq r.1 n && (Nat.beq r.2.2.2.1 1 && !(Nat.beq r.2.2.2.2.2 9999)))
    | _ => false)
  | .invokestatic j => k_dc bts pc i len 3 && (match x with
    | n :: na :: _ => k_LR.any (fun q => Nat.beq q.1 o && (Nat.beq q.2.1 j && (Nat.beq q.2.2.1 n && Nat.beq q.2.2.2.1 na))) && k_MR.any (fun r => Nat.beq r.1 n && Nat.beq r.2.2.2.1 0)
    | [] => k_CR.any (fun q => Nat.beq q.1 o && Nat.beq q.2.1 j)
    | [k] => k_XR.any (fun q => Nat.beq q.1 o && (Nat.beq q.2.1 j && Nat.beq q.2.2.1 k)))
  | _ => k_dc bts pc i len 1
def k_okB (o : Nat) (pcs : List Nat) (bts : ByteArray) : Nat → List AI → Bool
  | _, [] => true
  | pc, (i, len, x) :: r => k_okI o pcs bts pc i len x && k_okB o pcs bts (pc + len) r
def k_okM (M : Md) : Prop := (MT M.1).2.2.1 = M.2.2.1 ∧ (MT M.1).2.2.2 = M.2.2.2.1 ∧ (MT M.1).1.cls = CN M.2.1 ∧ plainName (MT M.1).1.cls = true ∧ (M.2.2.2.2.all (fun q => k_okB M.2.1 (M.2.2.2.2.map (fun z => z.1)) (MT M.1).2.1 q.1 q.2)) = true ∧ (M.2.2.2.2.getD 0 (1, [])).1 = 0
end
section
/-! code as data (written by wip/whole/gencode.py) -/
def P_J6_numberOfTrailingZeros_0f7a4 : CB := [(0, [(.iload_n 0, 1, []), (.iconst (-1), 1, []), (.ixor, 1, []), (.iload_n 0, 1, []), (.iconst 1, 1, []), (.isub, 1, [0]), (.iand, 1, []), (.istore_n 0, 1, []), (.iload_n 0, 1, []), (.ifCond .gt 8, 3, [1]), (.iload_n 0, 1, []), (.bipush 32, 2, []), (.iand, 1, []), (.ireturn, 1, [])]),
  (17, [(.iconst 1, 1, []), (.istore_n 1, 1, []), (.iload_n 0, 1, []), (.ldc_w 264, 3, [65536]), (.if_icmp .le 11, 3, [2]), (.iinc 1 16, 3, []), (.iload_n 0, 1, []), (.bipush 16, 2, []), (.iushr, 1, []), (.istore_n 0, 1, []), (.nop, 0, [2])]),
  (34, [(.iload_n 0, 1, []), (.sipush 256, 3, []), (.if_icmp .le 11, 3, [3]), (.iinc 1 8, 3, []), (.iload_n 0, 1, []), (.bipush 8, 2, []), (.iushr, 1, []), (.istore_n 0, 1, []), (.nop, 0, [3])]),
  (49, [(.iload_n 0, 1, []), (.bipush 16, 2, []), (.if_icmp .le 10, 3, [4]), (.iinc 1 4, 3, []), (.iload_n 0, 1, []), (.iconst 4, 1, []), (.iushr, 1, []), (.istore_n 0, 1, []), (.nop, 0, [4])]),
  (62, [(.iload_n 0, 1, []), (.iconst 4, 1, []), (.if_icmp .le 10, 3, [5]), (.iinc 1 2, 3, []), (.iload_n 0, 1, []), (.iconst 2, 1, []), (.iushr, 1, []), (.istore_n 0, 1, []), (.nop, 0, [5])]),
  (74, [(.iload_n 1, 1, []), (.iload_n 0, 1, []), (.iconst 1, 1, []), (.iushr, 1, []), (.iadd, 1, [0]), (.ireturn, 1, [])])]
abbrev M_J6_numberOfTrailingZeros_0f7a4 : Md := (315, 14, 2, (some .int), P_J6_numberOfTrailingZeros_0f7a4)
theorem ok_J6_numberOfTrailingZeros_0f7a4 : k_okM M_J6_numberOfTrailingZeros_0f7a4 := by unfold k_okM; decide +kernel
def P_J6_bitCount_0f7a4 : CB := [(0, [(.iload_n 0, 1, []), (.iload_n 0, 1, []), (.iconst 1, 1, []), (.iushr, 1, []), (.ldc_w 265, 3, [1431655765]), (.iand, 1, []), (.isub, 1, [0]), (.istore_n 0, 1, []), (.iload_n 0, 1, []), (.ldc_w 266, 3, [858993459]), (.iand, 1, []), (.iload_n 0, 1, []), (.iconst 2, 1, []), (.iushr, 1, []), (.ldc_w 266, 3, [858993459]), (.iand, 1, []), (.iadd, 1, [0]), (.istore_n 0, 1, []), (.iload_n 0, 1, []), (.iload_n 0, 1, []), (.iconst 4, 1, []), (.iushr, 1, []), (.iadd, 1, [0]), (.ldc_w 267, 3, [252645135]), (.iand, 1, []), (.istore_n 0, 1, []), (.iload_n 0, 1, []), (.iload_n 0, 1, []), (.bipush 8, 2, []), (.iushr, 1, []), (.iadd, 1, [0]), (.istore_n 0, 1, []), (.iload_n 0, 1, []), (.iload_n 0, 1, []), (.bipush 16, 2, []), (.iushr, 1, []), (.iadd, 1, [0]), (.istore_n 0, 1, []), (.iload_n 0, 1, []), (.bipush 63, 2, []), (.iand, 1, []), (.ireturn, 1, [])])]
abbrev M_J6_bitCount_0f7a4 : Md := (316, 14, 1, (some .int), P_J6_bitCount_0f7a4)
theorem ok_J6_bitCount_0f7a4 : k_okM M_J6_bitCount_0f7a4 := by unfold k_okM; decide +kernel
def P_J6_reverse_0f7a4 : CB := [(0, [(.iload_n 0, 1, []), (.ldc_w 265, 3, [1431655765]), (.iand, 1, []), (.iconst 1, 1, []), (.ishl, 1, []), (.iload_n 0, 1, []), (.iconst 1, 1, []), (.iushr, 1, []), (.ldc_w 265, 3, [1431655765]), (.iand, 1, []), (.ior, 1, []), (.istore_n 0, 1, []), (.iload_n 0, 1, []), (.ldc_w 266, 3, [858993459]), (.iand, 1, []), (.iconst 2, 1, []), (.ishl, 1, []), (.iload_n 0, 1, []), (.iconst 2, 1, []), (.iushr, 1, []), (.ldc_w 266, 3, [858993459]), (.iand, 1, []), (.ior, 1, []), (.istore_n 0, 1, []), (.iload_n 0, 1, []), (.ldc_w 267, 3, [252645135]), (.iand, 1, []), (.iconst 4, 1, []), (.ishl, 1, []), (.iload_n 0, 1, []), (.iconst 4, 1, []), (.iushr, 1, []), (.ldc_w 267, 3, [252645135]), (.iand, 1, []), (.ior, 1, []), (.istore_n 0, 1, []), (.iload_n 0, 1, []), (.invokestatic 268, 3, [318, 1]), (.ireturn, 1, [])])]
abbrev M_J6_reverse_0f7a4 : Md := (317, 14, 1, (some .int), P_J6_reverse_0f7a4)
theorem ok_J6_reverse_0f7a4 : k_okM M_J6_reverse_0f7a4 := by unfold k_okM; decide +kernel
def P_J6_reverseBytes_0f7a4 : CB := [(0, [(.iload_n 0, 1, []), (.bipush 24, 2, []), (.ishl, 1, []), (.iload_n 0, 1, []), (.ldc_w 274, 3, [65280]), (.iand, 1, []), (.bipush 8, 2, []), (.ishl, 1, []), (.ior, 1, []), (.iload_n 0, 1, []), (.bipush 8, 2, []), (.iushr, 1, []), (.ldc_w 274, 3, [65280]), (.iand, 1, []), (.ior, 1, []), (.iload_n 0, 1, []), (.bipush 24, 2, []), (.iushr, 1, []), (.ior, 1, []), (.ireturn, 1, [])])]
abbrev M_J6_reverseBytes_0f7a4 : Md := (318, 14, 1, (some .int), P_J6_reverseBytes_0f7a4)
theorem ok_J6_reverseBytes_0f7a4 : k_okM M_J6_reverseBytes_0f7a4 := by unfold k_okM; decide +kernel
def P_J7_rangeCheck_23922 : CB := [(0, [(.iload_n 1, 1, []), (.iload_n 2, 1, []), (.if_icmp .le 44, 3, [1])]),
  (46, [(.iload_n 1, 1, []), (.ifCond .ge 12, 3, [2])]),
  (59, [(.iload_n 2, 1, []), (.iload_n 0, 1, []), (.if_icmp .le 12, 3, [3])]),
  (73, [(.return_, 1, [])])]
abbrev M_J7_rangeCheck_23922 : Md := (322, 16, 3, none, P_J7_rangeCheck_23922)
theorem ok_J7_rangeCheck_23922 : k_okM M_J7_rangeCheck_23922 := by unfold k_okM; decide +kernel
def P_J7_fill_53178 : CB := [(0, [(.iconst 0, 1, []), (.istore_n 2, 1, []), (.aload_n 0, 1, []), (.arraylength, 1, []), (.istore_n 3, 1, []), (.nop, 0, [1])]),
  (5, [(.iload_n 2, 1, []), (.iload_n 3, 1, []), (.if_icmp .ge 13, 3, [2]), (.aload_n 0, 1, []), (.iload_n 2, 1, []), (.iload_n 1, 1, []), (.iastore, 1, []), (.iinc 2 1, 3, []), (.goto (-12), 3, [1])]),
  (20, [(.return_, 1, [])])]
abbrev M_J7_fill_53178 : Md := (323, 16, 4, none, P_J7_fill_53178)
theorem ok_J7_fill_53178 : k_okM M_J7_fill_53178 := by unfold k_okM; decide +kernel
def P_J7_fill_fda19 : CB := [(0, [(.aload_n 0, 1, []), (.arraylength, 1, []), (.iload_n 1, 1, []), (.iload_n 2, 1, []), (.invokestatic 13, 3, [322, 3]), (.iload_n 1, 1, []), (.istore 4, 2, []), (.nop, 0, [1])]),
  (10, [(.iload 4, 2, []), (.iload_n 2, 1, []), (.if_icmp .ge 14, 3, [2]), (.aload_n 0, 1, []), (.iload 4, 2, []), (.iload_n 3, 1, []), (.iastore, 1, []), (.iinc 4 1, 3, []), (.goto (-14), 3, [1])]),
  (27, [(.return_, 1, [])])]
abbrev M_J7_fill_fda19 : Md := (324, 16, 5, none, P_J7_fill_fda19)
theorem ok_J7_fill_fda19 : k_okM M_J7_fill_fda19 := by unfold k_okM; decide +kernel
def P_L_cell : CB := [(0, [(.iload_n 1, 1, []), (.aload_n 0, 1, []), (.arraylength, 1, []), (.if_icmp .ge 9, 3, [1]), (.aload_n 0, 1, []), (.iload_n 1, 1, []), (.iaload, 1, []), (.goto 4, 3, [2])]),
  (12, [(.iconst 0, 1, []), (.nop, 0, [2])]),
  (13, [(.ireturn, 1, [])])]
abbrev M_L_cell : Md := (325, 13, 2, (some .int), P_L_cell)
theorem ok_L_cell : k_okM M_L_cell := by unfold k_okM; decide +kernel
end
section
/-! code as data (written by wip/whole/gencode.py) -/
def P_X0_shiftVias : CB := [(0, [(.aload_n 0, 1, []), (.iconst 0, 1, []), (.putfield 47, 3, [0, 3, 0]), (.aload_n 0, 1, []), (.iconst 0, 1, []), (.putfield 50, 3, [0, 4, 0]), (.iconst 0, 1, []), (.istore_n 3, 1, []), (.nop, 0, [1])]),
  (12, [(.iload_n 3, 1, []), (.aload_n 0, 1, []), (.getfield 15, 3, [0, 1, 1]), (.getfield 53, 3, [3, 14, 0]), (.if_icmp .ge 97, 3, [5]), (.iconst 0, 1, []), (.istore 4, 2, []), (.nop, 0, [2])]),
  (26, [(.iload 4, 2, []), (.aload_n 0, 1, []), (.getfield 9, 3, [0, 0, 1]), (.getfield 35, 3, [2, 4, 0]), (.if_icmp .ge 76, 3, [4]), (.aload_n 0, 1, []), (.getfield 15, 3, [0, 1, 1]), (.iload_n 3, 1, []), (.iload 4, 2, []), (.invokevirtual 58, 3, [53, 3, 3]), (.iconst 4, 1, []), (.ishr, 1, []), (.iconst 1, 1, []), (.iand, 1, []), (.ifCond .eq 53, 3, [3]), (.aload_n 0, 1, []), (.getfield 9, 3, [0, 0, 1]), (.aload_n 0, 1, []), (.getfield 9, 3, [0, 0, 1]), (.getfield 62, 3, [2, 6, 1]), (.iload 4, 2, []), (.iaload, 1, []), (.iload_n 1, 1, []), (.iadd, 1, []), (.aload_n 0, 1, []), (.getfield 9, 3, [0, 0, 1]), (.getfield 65, 3, [2, 7, 1]), (.iload 4, 2, []), (.iaload, 1, []), (.iload_n 2, 1, []), (.iadd, 1, []), (.aload_n 0, 1, []), (.getfield 9, 3, [0, 0, 1]), (.getfield 68, 3, [2, 8, 1]), (.iload 4, 2, []), (.iaload, 1, []), (.invokevirtual 71, 3, [29, 4, 2]), (.istore 5, 2, []), (.aload_n 0, 1, []), (.iload_n 3, 1, []), (.iload 5, 2, []), (.invokevirtual 75, 3, [2, 3, 0]), (.nop, 0, [3])]),
  (105, [(.iinc 4 1, 3, []), (.goto (-82), 3, [2])]),
  (111, [(.iinc 3 1, 3, []), (.goto (-102), 3, [1])]),
  (117, [(.return_, 1, [])])]
abbrev M_X0_shiftVias : Md := (1, 0, 6, none, P_X0_shiftVias)
theorem ok_X0_shiftVias : k_okM M_X0_shiftVias := by unfold k_okM; decide +kernel
def P_X0_judgeVia : CB := [(0, [(.iload_n 2, 1, []), (.iconst (-1), 1, []), (.if_icmp .ne 7, 3, [1]), (.iconst (-1), 1, []), (.goto 17, 3, [2])]),
  (9, [(.aload_n 0, 1, []), (.getfield 9, 3, [0, 0, 1]), (.getfield 79, 3, [2, 5, 1]), (.iload_n 2, 1, []), (.bipush 6, 2, []), (.imul, 1, []), (.iconst 4, 1, []), (.iadd, 1, []), (.iaload, 1, []), (.nop, 0, [2])]),
  (23, [(.istore_n 3, 1, []), (.iload_n 2, 1, []), (.iconst (-1), 1, []), (.if_icmp .eq 8, 3, [3]), (.iload_n 3, 1, []), (.iconst (-1), 1, []), (.if_icmp .ne 14, 3, [4]), (.nop, 0, [3])]),
  (34, [(.aload_n 0, 1, []), (.dup, 1, []), (.getfield 50, 3, [0, 4, 0]), (.iconst 1, 1, []), (.iadd, 1, []), (.putfield 50, 3, [0, 4, 0]), (.return_, 1, [])]),
  (45, [(.aload_n 0, 1, []), (.getfield 15, 3, [0, 1, 1]), (.iload_n 2, 1, []), (.invokevirtual 82, 3, [52, 2, 3]), (.istore 4, 2, []), (.aload_n 0, 1, []), (.getfield 15, 3, [0, 1, 1]), (.iload_n 3, 1, []), (.invokevirtual 82, 3, [52, 2, 3]), (.istore 5, 2, []), (.iload 4, 2, []), (.iload 5, 2, []), (.ior, 1, []), (.iconst 1, 1, []), (.iload_n 1, 1, []), (.ishl, 1, []), (.iconst (-1), 1, []), (.ixor, 1, []), (.iand, 1, []), (.ifCond .eq 13, 3, [5]), (.aload_n 0, 1, []), (.dup, 1, []), (.getfield 47, 3, [0, 3, 0]), (.iconst 1, 1, []), (.iadd, 1, []), (.putfield 47, 3, [0, 3, 0]), (.nop, 0, [5])]),
  (89, [(.iload 4, 2, []), (.iload 5, 2, []), (.iand, 1, []), (.iconst 1, 1, []), (.iload_n 1, 1, []), (.ishl, 1, []), (.iand, 1, []), (.ifCond .ne 13, 3, [6]), (.aload_n 0, 1, []), (.dup, 1, []), (.getfield 50, 3, [0, 4, 0]), (.iconst 1, 1, []), (.iadd, 1, []), (.putfield 50, 3, [0, 4, 0]), (.nop, 0, [6])]),
  (111, [(.return_, 1, [])])]
abbrev M_X0_judgeVia : Md := (2, 0, 6, none, P_X0_judgeVia)
theorem ok_X0_judgeVia : k_okM M_X0_judgeVia := by unfold k_okM; decide +kernel
def P_X0_worstShift : CB := [(0, [(.iconst 0, 1, []), (.istore_n 3, 1, []), (.iconst 0, 1, []), (.istore 4, 2, []), (.iconst (-1), 1, []), (.istore 5, 2, []), (.iload_n 1, 1, []), (.ineg, 1, []), (.istore 6, 2, []), (.nop, 0, [1])]),
  (12, [(.iload 6, 2, []), (.iload_n 1, 1, []), (.if_icmp .gt 65, 3, [5]), (.iload_n 1, 1, []), (.ineg, 1, []), (.istore 7, 2, []), (.nop, 0, [2])]),
  (22, [(.iload 7, 2, []), (.iload_n 1, 1, []), (.if_icmp .gt 49, 3, [4]), (.aload_n 0, 1, []), (.iload 6, 2, []), (.iload 7, 2, []), (.invokevirtual 86, 3, [1, 3, 0]), (.aload_n 0, 1, []), (.getfield 47, 3, [0, 3, 0]), (.aload_n 0, 1, []), (.getfield 50, 3, [0, 4, 0]), (.iadd, 1, []), (.iload 5, 2, []), (.if_icmp .le 21, 3, [3]), (.aload_n 0, 1, []), (.getfield 47, 3, [0, 3, 0]), (.aload_n 0, 1, []), (.getfield 50, 3, [0, 4, 0]), (.iadd, 1, []), (.istore 5, 2, []), (.iload 6, 2, []), (.istore_n 3, 1, []), (.iload 7, 2, []), (.istore 4, 2, []), (.nop, 0, [3])]),
  (68, [(.iinc 7 1, 3, []), (.goto (-49), 3, [2])]),
  (74, [(.iinc 6 1, 3, []), (.goto (-65), 3, [1])]),
  (80, [(.iload_n 2, 1, []), (.ifCond .ne 7, 3, [6]), (.iload_n 3, 1, []), (.goto 15, 3, [8])]),
  (88, [(.iload_n 2, 1, []), (.iconst 1, 1, []), (.if_icmp .ne 8, 3, [7]), (.iload 4, 2, []), (.goto 5, 3, [8])]),
  (98, [(.iload 5, 2, []), (.nop, 0, [8])]),
  (100, [(.ireturn, 1, [])])]
abbrev M_X0_worstShift : Md := (3, 0, 8, (some .int), P_X0_worstShift)
theorem ok_X0_worstShift : k_okM M_X0_worstShift := by unfold k_okM; decide +kernel
def P_X0_joinAll : CB := [(0, [(.aload_n 0, 1, []), (.getfield 38, 3, [0, 5, 1]), (.iconst (-1), 1, []), (.invokestatic 29, 3, [323, 2]), (.aload_n 0, 1, []), (.iconst 0, 1, []), (.putfield 89, 3, [0, 8, 0]), (.iconst 0, 1, []), (.istore_n 1, 1, []), (.nop, 0, [1])]),
  (15, [(.iload_n 1, 1, []), (.aload_n 0, 1, []), (.getfield 9, 3, [0, 0, 1]), (.getfield 35, 3, [2, 4, 0]), (.if_icmp .ge 54, 3, [3]), (.aload_n 0, 1, []), (.getfield 38, 3, [0, 5, 1]), (.iload_n 1, 1, []), (.iaload, 1, []), (.iconst (-1), 1, []), (.if_icmp .ne 38, 3, [2]), (.aload_n 0, 1, []), (.getfield 15, 3, [0, 1, 1]), (.iload_n 1, 1, []), (.invokevirtual 82, 3, [52, 2, 3]), (.ifCond .eq 27, 3, [2]), (.aload_n 0, 1, []), (.getfield 44, 3, [0, 7, 1]), (.aload_n 0, 1, []), (.getfield 89, 3, [0, 8, 0]), (.aload_n 0, 1, []), (.iload_n 1, 1, []), (.invokevirtual 92, 3, [5, 2, 0]), (.iastore, 1, []), (.aload_n 0, 1, []), (.dup, 1, []), (.getfield 89, 3, [0, 8, 0]), (.iconst 1, 1, []), (.iadd, 1, []), (.putfield 89, 3, [0, 8, 0]), (.nop, 0, [2])]),
  (71, [(.iinc 1 1, 3, []), (.goto (-59), 3, [1])]),
  (77, [(.return_, 1, [])])]
abbrev M_X0_joinAll : Md := (4, 0, 2, none, P_X0_joinAll)
theorem ok_X0_joinAll : k_okM M_X0_joinAll := by unfold k_okM; decide +kernel
def P_X0_joinFrom : CB := [(0, [(.aload_n 0, 1, []), (.getfield 38, 3, [0, 5, 1]), (.iload_n 1, 1, []), (.aload_n 0, 1, []), (.getfield 89, 3, [0, 8, 0]), (.iastore, 1, []), (.aload_n 0, 1, []), (.getfield 41, 3, [0, 6, 1]), (.iconst 0, 1, []), (.iload_n 1, 1, []), (.iastore, 1, []), (.iconst 1, 1, []), (.istore_n 2, 1, []), (.iconst 0, 1, []), (.istore_n 3, 1, []), (.iconst 0, 1, []), (.istore 4, 2, []), (.nop, 0, [1])]),
  (24, [(.iload 4, 2, []), (.iload_n 2, 1, []), (.if_icmp .ge 139, 3, [5]), (.iload 4, 2, []), (.aload_n 0, 1, []), (.getfield 9, 3, [0, 0, 1]), (.getfield 35, 3, [2, 4, 0]), (.if_icmp .ge 127, 3, [5]), (.iload_n 3, 1, []), (.aload_n 0, 1, []), (.getfield 15, 3, [0, 1, 1]), (.aload_n 0, 1, []), (.getfield 41, 3, [0, 6, 1]), (.iload 4, 2, []), (.iaload, 1, []), (.invokevirtual 82, 3, [52, 2, 3]), (.ior, 1, []), (.istore_n 3, 1, []), (.aload_n 0, 1, []), (.aload_n 0, 1, []), (.getfield 41, 3, [0, 6, 1]), (.iload 4, 2, []), (.iaload, 1, []), (.invokevirtual 95, 3, [6, 2, 0]), (.istore 5, 2, []), (.iconst 0, 1, []), (.istore 6, 2, []), (.nop, 0, [2])]),
  (75, [(.iload 6, 2, []), (.bipush 6, 2, []), (.if_icmp .ge 81, 3, [4]), (.aload_n 0, 1, []), (.getfield 9, 3, [0, 0, 1]), (.getfield 79, 3, [2, 5, 1]), (.aload_n 0, 1, []), (.getfield 41, 3, [0, 6, 1]), (.iload 4, 2, []), (.iaload, 1, []), (.bipush 6, 2, []), (.imul, 1, []), (.iload 6, 2, []), (.iadd, 1, []), (.iaload, 1, []), (.istore 7, 2, []), (.iload 5, 2, []), (.iload 6, 2, []), (.ishr, 1, []), (.iconst 1, 1, []), (.iand, 1, []), (.ifCond .eq 42, 3, [3]), (.iload 7, 2, []), (.iconst (-1), 1, []), (.if_icmp .eq 36, 3, [3]), (.aload_n 0, 1, []), (.getfield 38, 3, [0, 5, 1]), (.iload 7, 2, []), (.iaload, 1, []), (.iconst (-1), 1, []), (.if_icmp .ne 25, 3, [3]), (.aload_n 0, 1, []), (.getfield 38, 3, [0, 5, 1]), (.iload 7, 2, []), (.aload_n 0, 1, []), (.getfield 89, 3, [0, 8, 0]), (.iastore, 1, []), (.aload_n 0, 1, []), (.getfield 41, 3, [0, 6, 1]), (.iload_n 2, 1, []), (.iload 7, 2, []), (.iastore, 1, []), (.iinc 2 1, 3, []), (.nop, 0, [3])]),
  (154, [(.iinc 6 1, 3, []), (.goto (-82), 3, [2])]),
  (160, [(.iinc 4 1, 3, []), (.goto (-139), 3, [1])]),
  (166, [(.iload_n 3, 1, []), (.ireturn, 1, [])])]
abbrev M_X0_joinFrom : Md := (5, 0, 8, (some .int), P_X0_joinFrom)
theorem ok_X0_joinFrom : k_okM M_X0_joinFrom := by unfold k_okM; decide +kernel
def P_X0_allMovesAt : CB := [(0, [(.iconst 0, 1, []), (.istore_n 2, 1, []), (.iconst 0, 1, []), (.istore_n 3, 1, []), (.nop, 0, [1])]),
  (4, [(.iload_n 3, 1, []), (.aload_n 0, 1, []), (.getfield 15, 3, [0, 1, 1]), (.getfield 53, 3, [3, 14, 0]), (.if_icmp .ge 21, 3, [2]), (.iload_n 2, 1, []), (.aload_n 0, 1, []), (.getfield 15, 3, [0, 1, 1]), (.iload_n 3, 1, []), (.iload_n 1, 1, []), (.invokevirtual 58, 3, [53, 3, 3]), (.ior, 1, []), (.istore_n 2, 1, []), (.iinc 3 1, 3, []), (.goto (-26), 3, [1])]),
  (33, [(.iload_n 2, 1, []), (.ireturn, 1, [])])]
abbrev M_X0_allMovesAt : Md := (6, 0, 4, (some .int), P_X0_allMovesAt)
theorem ok_X0_allMovesAt : k_okM M_X0_allMovesAt := by unfold k_okM; decide +kernel
def P_X0_joinedPairs : CB := [(0, [(.iconst 0, 1, []), (.istore_n 1, 1, []), (.iconst 0, 1, []), (.istore_n 2, 1, []), (.nop, 0, [1])]),
  (4, [(.iload_n 2, 1, []), (.aload_n 0, 1, []), (.getfield 15, 3, [0, 1, 1]), (.getfield 53, 3, [3, 14, 0]), (.if_icmp .ge 52, 3, [6]), (.iload_n 2, 1, []), (.iconst 1, 1, []), (.iadd, 1, []), (.istore_n 3, 1, []), (.nop, 0, [2])]),
  (19, [(.iload_n 3, 1, []), (.aload_n 0, 1, []), (.getfield 15, 3, [0, 1, 1]), (.getfield 53, 3, [3, 14, 0]), (.if_icmp .ge 31, 3, [5]), (.iload_n 1, 1, []), (.aload_n 0, 1, []), (.iconst 1, 1, []), (.iload_n 2, 1, []), (.ishl, 1, []), (.iconst 1, 1, []), (.iload_n 3, 1, []), (.ishl, 1, []), (.ior, 1, []), (.invokevirtual 98, 3, [8, 2, 0]), (.ifCond .eq 7, 3, [3]), (.iconst 1, 1, []), (.goto 4, 3, [4])]),
  (49, [(.iconst 0, 1, []), (.nop, 0, [4])]),
  (50, [(.iadd, 1, []), (.istore_n 1, 1, []), (.iinc 3 1, 3, []), (.goto (-36), 3, [2])]),
  (58, [(.iinc 2 1, 3, []), (.goto (-57), 3, [1])]),
  (64, [(.iload_n 1, 1, []), (.ireturn, 1, [])])]
abbrev M_X0_joinedPairs : Md := (7, 0, 4, (some .int), P_X0_joinedPairs)
theorem ok_X0_joinedPairs : k_okM M_X0_joinedPairs := by unfold k_okM; decide +kernel
def P_X0_areJoined : CB := [(0, [(.iconst 0, 1, []), (.istore_n 2, 1, []), (.nop, 0, [1])]),
  (2, [(.iload_n 2, 1, []), (.aload_n 0, 1, []), (.getfield 89, 3, [0, 8, 0]), (.if_icmp .ge 23, 3, [3]), (.aload_n 0, 1, []), (.getfield 44, 3, [0, 7, 1]), (.iload_n 2, 1, []), (.iaload, 1, []), (.iload_n 1, 1, []), (.iand, 1, []), (.iload_n 1, 1, []), (.if_icmp .ne 5, 3, [2]), (.iconst 1, 1, []), (.ireturn, 1, [])]),
  (24, [(.iinc 2 1, 3, []), (.goto (-25), 3, [1])]),
  (30, [(.iconst 0, 1, []), (.ireturn, 1, [])])]
abbrev M_X0_areJoined : Md := (8, 0, 3, (some .boolean), P_X0_areJoined)
theorem ok_X0_areJoined : k_okM M_X0_areJoined := by unfold k_okM; decide +kernel
def P_X0_openParts : CB := [(0, [(.iconst 0, 1, []), (.istore_n 1, 1, []), (.iconst 0, 1, []), (.istore_n 2, 1, []), (.nop, 0, [1])]),
  (4, [(.iload_n 2, 1, []), (.aload_n 0, 1, []), (.getfield 15, 3, [0, 1, 1]), (.getfield 53, 3, [3, 14, 0]), (.if_icmp .ge 47, 3, [6]), (.iconst 1, 1, []), (.istore_n 3, 1, []), (.nop, 0, [2])]),
  (17, [(.iload_n 3, 1, []), (.aload_n 0, 1, []), (.getfield 15, 3, [0, 1, 1]), (.getfield 102, 3, [3, 4, 1]), (.iload_n 2, 1, []), (.iaload, 1, []), (.if_icmp .ge 26, 3, [5]), (.iload_n 1, 1, []), (.aload_n 0, 1, []), (.iload_n 2, 1, []), (.iload_n 3, 1, []), (.invokevirtual 105, 3, [10, 3, 0]), (.ifCond .eq 7, 3, [3]), (.iconst 1, 1, []), (.goto 4, 3, [4])]),
  (44, [(.iconst 0, 1, []), (.nop, 0, [4])]),
  (45, [(.iadd, 1, []), (.istore_n 1, 1, []), (.iinc 3 1, 3, []), (.goto (-33), 3, [2])]),
  (53, [(.iinc 2 1, 3, []), (.goto (-52), 3, [1])]),
  (59, [(.iload_n 1, 1, []), (.ireturn, 1, [])])]
abbrev M_X0_openParts : Md := (9, 0, 4, (some .int), P_X0_openParts)
theorem ok_X0_openParts : k_okM M_X0_openParts := by unfold k_okM; decide +kernel
def P_X0_isNewPart : CB := [(0, [(.iconst 0, 1, []), (.istore_n 3, 1, []), (.nop, 0, [1])]),
  (2, [(.iload_n 3, 1, []), (.iload_n 2, 1, []), (.if_icmp .ge 42, 3, [3]), (.aload_n 0, 1, []), (.getfield 38, 3, [0, 5, 1]), (.aload_n 0, 1, []), (.getfield 15, 3, [0, 1, 1]), (.iload_n 1, 1, []), (.iload_n 3, 1, []), (.invokevirtual 109, 3, [36, 3, 3]), (.iaload, 1, []), (.aload_n 0, 1, []), (.getfield 38, 3, [0, 5, 1]), (.aload_n 0, 1, []), (.getfield 15, 3, [0, 1, 1]), (.iload_n 1, 1, []), (.iload_n 2, 1, []), (.invokevirtual 109, 3, [36, 3, 3]), (.iaload, 1, []), (.if_icmp .ne 5, 3, [2]), (.iconst 0, 1, []), (.ireturn, 1, [])]),
  (40, [(.iinc 3 1, 3, []), (.goto (-41), 3, [1])]),
  (46, [(.iconst 1, 1, []), (.ireturn, 1, [])])]
abbrev M_X0_isNewPart : Md := (10, 0, 4, (some .boolean), P_X0_isNewPart)
theorem ok_X0_isNewPart : k_okM M_X0_isNewPart := by unfold k_okM; decide +kernel
def P_X0_reachable : CB := [(0, [(.iconst 0, 1, []), (.istore_n 2, 1, []), (.iload_n 1, 1, []), (.aload_n 0, 1, []), (.getfield 9, 3, [0, 0, 1]), (.getfield 112, 3, [2, 3, 0]), (.imul, 1, []), (.istore_n 3, 1, []), (.nop, 0, [1])]),
  (12, [(.iload_n 3, 1, []), (.iload_n 1, 1, []), (.iconst 1, 1, []), (.iadd, 1, []), (.aload_n 0, 1, []), (.getfield 9, 3, [0, 0, 1]), (.getfield 112, 3, [2, 3, 0]), (.imul, 1, []), (.if_icmp .ge 58, 3, [3]), (.aload_n 0, 1, []), (.getfield 15, 3, [0, 1, 1]), (.iload_n 3, 1, []), (.invokevirtual 82, 3, [52, 2, 3]), (.istore 4, 2, []), (.iload 4, 2, []), (.invokestatic 115, 3, [316, 1]), (.iconst 1, 1, []), (.if_icmp .ne 33, 3, [2]), (.aload_n 0, 1, []), (.getfield 15, 3, [0, 1, 1]), (.getfield 120, 3, [3, 6, 1]), (.iload_n 3, 1, []), (.iaload, 1, []), (.ifCond .ne 21, 3, [2]), (.aload_n 0, 1, []), (.iload_n 3, 1, []), (.invokevirtual 123, 3, [12, 2, 0]), (.iload 4, 2, []), (.iconst (-1), 1, []), (.ixor, 1, []), (.iand, 1, []), (.ifCond .ne 8, 3, [2]), (.iload_n 2, 1, []), (.iload 4, 2, []), (.ior, 1, []), (.istore_n 2, 1, []), (.nop, 0, [2])]),
  (76, [(.iinc 3 1, 3, []), (.goto (-67), 3, [1])]),
  (82, [(.iload_n 2, 1, []), (.ireturn, 1, [])])]
abbrev M_X0_reachable : Md := (11, 0, 5, (some .int), P_X0_reachable)
theorem ok_X0_reachable : k_okM M_X0_reachable := by unfold k_okM; decide +kernel
def P_X0_copperBeside : CB := [(0, [(.iconst 0, 1, []), (.istore_n 2, 1, []), (.iconst 0, 1, []), (.istore_n 3, 1, []), (.nop, 0, [1])]),
  (4, [(.iload_n 3, 1, []), (.iconst 4, 1, []), (.if_icmp .ge 47, 3, [4]), (.aload_n 0, 1, []), (.getfield 9, 3, [0, 0, 1]), (.getfield 79, 3, [2, 5, 1]), (.iload_n 1, 1, []), (.bipush 6, 2, []), (.imul, 1, []), (.iload_n 3, 1, []), (.iadd, 1, []), (.iaload, 1, []), (.istore 4, 2, []), (.iload_n 2, 1, []), (.iload 4, 2, []), (.iconst (-1), 1, []), (.if_icmp .ne 7, 3, [2]), (.iconst 0, 1, []), (.goto 12, 3, [3])]),
  (36, [(.aload_n 0, 1, []), (.getfield 15, 3, [0, 1, 1]), (.iload 4, 2, []), (.invokevirtual 82, 3, [52, 2, 3]), (.nop, 0, [3])]),
  (45, [(.ior, 1, []), (.istore_n 2, 1, []), (.iinc 3 1, 3, []), (.goto (-46), 3, [1])]),
  (53, [(.iload_n 2, 1, []), (.ireturn, 1, [])])]
abbrev M_X0_copperBeside : Md := (12, 0, 5, (some .int), P_X0_copperBeside)
theorem ok_X0_copperBeside : k_okM M_X0_copperBeside := by unfold k_okM; decide +kernel
def P_X0_delayOf : CB := [(0, [(.iconst 0, 1, []), (.istore_n 2, 1, []), (.iconst 0, 1, []), (.istore_n 3, 1, []), (.nop, 0, [1])]),
  (4, [(.iload_n 3, 1, []), (.aload_n 0, 1, []), (.getfield 9, 3, [0, 0, 1]), (.getfield 35, 3, [2, 4, 0]), (.if_icmp .ge 64, 3, [2]), (.aload_n 0, 1, []), (.getfield 15, 3, [0, 1, 1]), (.iload_n 1, 1, []), (.iload_n 3, 1, []), (.invokevirtual 58, 3, [53, 3, 3]), (.istore 4, 2, []), (.iload_n 2, 1, []), (.iload 4, 2, []), (.bipush 6, 2, []), (.iand, 1, []), (.invokestatic 115, 3, [316, 1]), (.aload_n 0, 1, []), (.getfield 25, 3, [0, 2, 1]), (.aload_n 0, 1, []), (.getfield 9, 3, [0, 0, 1]), (.getfield 68, 3, [2, 8, 1]), (.iload_n 3, 1, []), (.iaload, 1, []), (.iconst 1, 1, []), (.iadd, 1, []), (.iaload, 1, []), (.imul, 1, []), (.iadd, 1, []), (.istore_n 2, 1, []), (.iload_n 2, 1, []), (.iload 4, 2, []), (.iconst 4, 1, []), (.ishr, 1, []), (.iconst 1, 1, []), (.iand, 1, []), (.aload_n 0, 1, []), (.getfield 25, 3, [0, 2, 1]), (.iconst 0, 1, []), (.iaload, 1, []), (.imul, 1, []), (.iadd, 1, []), (.istore_n 2, 1, []), (.iinc 3 1, 3, []), (.goto (-69), 3, [1])]),
  (76, [(.iload_n 2, 1, []), (.ireturn, 1, [])])]
abbrev M_X0_delayOf : Md := (13, 0, 5, (some .int), P_X0_delayOf)
theorem ok_X0_delayOf : k_okM M_X0_delayOf := by unfold k_okM; decide +kernel
def P_X0_isBeside : CB := [(0, [(.aload_n 0, 1, []), (.getfield 15, 3, [0, 1, 1]), (.iload_n 3, 1, []), (.invokevirtual 82, 3, [52, 2, 3]), (.iload_n 1, 1, []), (.ishr, 1, []), (.iconst 1, 1, []), (.iand, 1, []), (.ifCond .eq 19, 3, [1]), (.aload_n 0, 1, []), (.iload_n 3, 1, []), (.invokevirtual 123, 3, [12, 2, 0]), (.iload_n 2, 1, []), (.ishr, 1, []), (.iconst 1, 1, []), (.iand, 1, []), (.ifCond .eq 7, 3, [1]), (.iconst 1, 1, []), (.goto 4, 3, [2])]),
  (31, [(.iconst 0, 1, []), (.nop, 0, [2])]),
  (32, [(.ireturn, 1, [])])]
abbrev M_X0_isBeside : Md := (14, 0, 4, (some .boolean), P_X0_isBeside)
theorem ok_X0_isBeside : k_okM M_X0_isBeside := by unfold k_okM; decide +kernel
def P_X0_cellsBeside : CB := [(0, [(.iconst 0, 1, []), (.istore_n 3, 1, []), (.iconst 0, 1, []), (.istore 4, 2, []), (.nop, 0, [1])]),
  (5, [(.iload 4, 2, []), (.aload_n 0, 1, []), (.getfield 9, 3, [0, 0, 1]), (.getfield 35, 3, [2, 4, 0]), (.if_icmp .ge 28, 3, [4]), (.iload_n 3, 1, []), (.aload_n 0, 1, []), (.iload_n 1, 1, []), (.iload_n 2, 1, []), (.iload 4, 2, []), (.invokevirtual 126, 3, [14, 4, 0]), (.ifCond .eq 7, 3, [2]), (.iconst 1, 1, []), (.goto 4, 3, [3])]),
  (33, [(.iconst 0, 1, []), (.nop, 0, [3])]),
  (34, [(.iadd, 1, []), (.istore_n 3, 1, []), (.iinc 4 1, 3, []), (.goto (-34), 3, [1])]),
  (42, [(.iload_n 3, 1, []), (.ireturn, 1, [])])]
abbrev M_X0_cellsBeside : Md := (15, 0, 5, (some .int), P_X0_cellsBeside)
theorem ok_X0_cellsBeside : k_okM M_X0_cellsBeside := by unfold k_okM; decide +kernel
end
section
/-! code as data (written by wip/whole/gencode.py) -/
def P_X0_turnsAway : CB := [(0, [(.iconst 0, 1, []), (.istore_n 3, 1, []), (.iconst 0, 1, []), (.istore 4, 2, []), (.nop, 0, [1])]),
  (5, [(.iload 4, 2, []), (.aload_n 0, 1, []), (.getfield 9, 3, [0, 0, 1]), (.getfield 35, 3, [2, 4, 0]), (.if_icmp .ge 115, 3, [8]), (.iconst 1, 1, []), (.istore 5, 2, []), (.nop, 0, [2])]),
  (20, [(.iload 5, 2, []), (.iconst 2, 1, []), (.if_icmp .gt 100, 3, [7]), (.aload_n 0, 1, []), (.getfield 9, 3, [0, 0, 1]), (.getfield 79, 3, [2, 5, 1]), (.iload 4, 2, []), (.bipush 6, 2, []), (.imul, 1, []), (.iload 5, 2, []), (.iadd, 1, []), (.iaload, 1, []), (.istore 6, 2, []), (.aload_n 0, 1, []), (.getfield 15, 3, [0, 1, 1]), (.getfield 130, 3, [3, 10, 1]), (.iload_n 1, 1, []), (.aload_n 0, 1, []), (.getfield 9, 3, [0, 0, 1]), (.getfield 35, 3, [2, 4, 0]), (.imul, 1, []), (.iload 4, 2, []), (.iadd, 1, []), (.iaload, 1, []), (.iload 5, 2, []), (.ishr, 1, []), (.iconst 1, 1, []), (.iand, 1, []), (.ifCond .eq 13, 3, [3]), (.iload 6, 2, []), (.iconst (-1), 1, []), (.if_icmp .eq 7, 3, [3]), (.iconst 1, 1, []), (.goto 4, 3, [4])]),
  (82, [(.iconst 0, 1, []), (.nop, 0, [4])]),
  (83, [(.istore 7, 2, []), (.iload_n 3, 1, []), (.iload 7, 2, []), (.ifCond .eq 26, 3, [5]), (.aload_n 0, 1, []), (.iload_n 1, 1, []), (.iload_n 2, 1, []), (.iload 4, 2, []), (.invokevirtual 126, 3, [14, 4, 0]), (.aload_n 0, 1, []), (.iload_n 1, 1, []), (.iload_n 2, 1, []), (.iload 6, 2, []), (.invokevirtual 126, 3, [14, 4, 0]), (.if_icmp .eq 7, 3, [5]), (.iconst 1, 1, []), (.goto 4, 3, [6])]),
  (114, [(.iconst 0, 1, []), (.nop, 0, [6])]),
  (115, [(.iadd, 1, []), (.istore_n 3, 1, []), (.iinc 5 1, 3, []), (.goto (-100), 3, [2])]),
  (123, [(.iinc 4 1, 3, []), (.goto (-121), 3, [1])]),
  (129, [(.iload_n 3, 1, []), (.ireturn, 1, [])])]
abbrev M_X0_turnsAway : Md := (16, 0, 8, (some .int), P_X0_turnsAway)
theorem ok_X0_turnsAway : k_okM M_X0_turnsAway := by unfold k_okM; decide +kernel
def P_X1_cutOf : CB := [(0, [(.aload_n 0, 1, []), (.getfield 19, 3, [1, 2, 1]), (.iload_n 1, 1, []), (.iconst 0, 1, []), (.invokevirtual 27, 3, [77, 3, 6]), (.aload_n 0, 1, []), (.getfield 19, 3, [1, 2, 1]), (.iconst 0, 1, []), (.invokevirtual 33, 3, [81, 2, 6]), (.aload_n 0, 1, []), (.getfield 19, 3, [1, 2, 1]), (.aload_n 0, 1, []), (.getfield 15, 3, [1, 1, 1]), (.iload_n 1, 1, []), (.iconst 0, 1, []), (.invokevirtual 37, 3, [36, 3, 3]), (.bipush 6, 2, []), (.invokevirtual 43, 3, [84, 3, 6]), (.istore_n 3, 1, []), (.iload_n 2, 1, []), (.ifCond .ne 5, 3, [1]), (.iload_n 3, 1, []), (.ireturn, 1, [])]),
  (42, [(.iload_n 2, 1, []), (.iconst 1, 1, []), (.if_icmp .ne 12, 3, [2]), (.aload_n 0, 1, []), (.getfield 19, 3, [1, 2, 1]), (.iload_n 1, 1, []), (.invokevirtual 46, 3, [86, 2, 6]), (.ireturn, 1, [])]),
  (56, [(.iconst 0, 1, []), (.istore 4, 2, []), (.iconst 0, 1, []), (.istore 5, 2, []), (.iconst 0, 1, []), (.istore 6, 2, []), (.nop, 0, [3])]),
  (65, [(.iload 6, 2, []), (.aload_n 0, 1, []), (.getfield 9, 3, [1, 0, 1]), (.getfield 50, 3, [2, 4, 0]), (.if_icmp .ge 101, 3, [9]), (.aload_n 0, 1, []), (.iload 6, 2, []), (.invokevirtual 56, 3, [19, 2, 1]), (.ifCond .eq 86, 3, [8]), (.iinc 4 1, 3, []), (.aload_n 0, 1, []), (.getfield 15, 3, [1, 1, 1]), (.iload_n 1, 1, []), (.iconst 4, 1, []), (.invokevirtual 60, 3, [34, 3, 3]), (.aload_n 0, 1, []), (.getfield 9, 3, [1, 0, 1]), (.getfield 63, 3, [2, 8, 1]), (.iload 6, 2, []), (.iaload, 1, []), (.ishr, 1, []), (.iconst 1, 1, []), (.iand, 1, []), (.ifCond .eq 7, 3, [4]), (.iconst 1, 1, []), (.goto 4, 3, [5])]),
  (118, [(.iconst 0, 1, []), (.nop, 0, [5])]),
  (119, [(.istore 7, 2, []), (.iload 5, 2, []), (.iload 7, 2, []), (.ifCond .eq 40, 3, [6]), (.aload_n 0, 1, []), (.getfield 15, 3, [1, 1, 1]), (.getfield 67, 3, [3, 6, 1]), (.iload 6, 2, []), (.iaload, 1, []), (.ifCond .ne 27, 3, [6]), (.aload_n 0, 1, []), (.getfield 19, 3, [1, 2, 1]), (.getfield 70, 3, [6, 2, 1]), (.iload 6, 2, []), (.iaload, 1, []), (.aload_n 0, 1, []), (.getfield 19, 3, [1, 2, 1]), (.getfield 73, 3, [6, 3, 1]), (.iload 6, 2, []), (.iaload, 1, []), (.ior, 1, []), (.goto 4, 3, [7])]),
  (165, [(.iconst 0, 1, []), (.nop, 0, [7])]),
  (166, [(.ior, 1, []), (.istore 5, 2, []), (.nop, 0, [8])]),
  (169, [(.iinc 6 1, 3, []), (.goto (-107), 3, [3])]),
  (175, [(.iload_n 2, 1, []), (.iconst 2, 1, []), (.if_icmp .ne 8, 3, [10]), (.iload 4, 2, []), (.goto 5, 3, [11])]),
  (185, [(.iload 5, 2, []), (.nop, 0, [11])]),
  (187, [(.ireturn, 1, [])])]
abbrev M_X1_cutOf : Md := (18, 1, 8, (some .int), P_X1_cutOf)
theorem ok_X1_cutOf : k_okM M_X1_cutOf := by unfold k_okM; decide +kernel
def P_X1_isWall : CB := [(0, [(.aload_n 0, 1, []), (.getfield 19, 3, [1, 2, 1]), (.getfield 76, 3, [6, 6, 1]), (.iload_n 1, 1, []), (.iaload, 1, []), (.ifCond .eq 5, 3, [1]), (.iconst 0, 1, []), (.ireturn, 1, [])]),
  (14, [(.iconst 0, 1, []), (.istore_n 2, 1, []), (.nop, 0, [2])]),
  (16, [(.iload_n 2, 1, []), (.bipush 6, 2, []), (.if_icmp .ge 43, 3, [4]), (.aload_n 0, 1, []), (.getfield 9, 3, [1, 0, 1]), (.getfield 79, 3, [2, 5, 1]), (.iload_n 1, 1, []), (.bipush 6, 2, []), (.imul, 1, []), (.iload_n 2, 1, []), (.iadd, 1, []), (.iaload, 1, []), (.istore_n 3, 1, []), (.iload_n 3, 1, []), (.iconst (-1), 1, []), (.if_icmp .eq 17, 3, [3]), (.aload_n 0, 1, []), (.getfield 19, 3, [1, 2, 1]), (.getfield 76, 3, [6, 6, 1]), (.iload_n 3, 1, []), (.iaload, 1, []), (.ifCond .eq 5, 3, [3]), (.iconst 1, 1, []), (.ireturn, 1, [])]),
  (56, [(.iinc 2 1, 3, []), (.goto (-43), 3, [2])]),
  (62, [(.iconst 0, 1, []), (.ireturn, 1, [])])]
abbrev M_X1_isWall : Md := (19, 1, 4, (some .boolean), P_X1_isWall)
theorem ok_X1_isWall : k_okM M_X1_isWall := by unfold k_okM; decide +kernel
def P_X1_setOf : CB := [(0, [(.iload_n 0, 1, []), (.invokestatic 82, 3, [317, 1]), (.bipush 24, 2, []), (.iushr, 1, []), (.ireturn, 1, [])])]
abbrev M_X1_setOf : Md := (20, 1, 1, (some .int), P_X1_setOf)
theorem ok_X1_setOf : k_okM M_X1_setOf := by unfold k_okM; decide +kernel
def P_X1_othersWithTraces : CB := [(0, [(.iconst 0, 1, []), (.istore_n 2, 1, []), (.iconst 0, 1, []), (.istore_n 3, 1, []), (.nop, 0, [1])]),
  (4, [(.iload_n 3, 1, []), (.aload_n 0, 1, []), (.getfield 9, 3, [1, 0, 1]), (.getfield 50, 3, [2, 4, 0]), (.if_icmp .ge 21, 3, [2]), (.iload_n 2, 1, []), (.aload_n 0, 1, []), (.getfield 15, 3, [1, 1, 1]), (.getfield 87, 3, [3, 8, 1]), (.iload_n 3, 1, []), (.iaload, 1, []), (.ior, 1, []), (.istore_n 2, 1, []), (.iinc 3 1, 3, []), (.goto (-26), 3, [1])]),
  (33, [(.iload_n 2, 1, []), (.iconst 1, 1, []), (.iload_n 1, 1, []), (.ishl, 1, []), (.iconst (-1), 1, []), (.ixor, 1, []), (.iand, 1, []), (.ireturn, 1, [])])]
abbrev M_X1_othersWithTraces : Md := (21, 1, 4, (some .int), P_X1_othersWithTraces)
theorem ok_X1_othersWithTraces : k_okM M_X1_othersWithTraces := by unfold k_okM; decide +kernel
def P_X1_fewestBars : CB := [(0, [(.aload_n 0, 1, []), (.getfield 19, 3, [1, 2, 1]), (.iload_n 1, 1, []), (.iconst 0, 1, []), (.invokevirtual 27, 3, [77, 3, 6]), (.aload_n 0, 1, []), (.getfield 19, 3, [1, 2, 1]), (.sipush 255, 3, []), (.invokevirtual 33, 3, [81, 2, 6]), (.aload_n 0, 1, []), (.getfield 19, 3, [1, 2, 1]), (.iload_n 1, 1, []), (.iload_n 2, 1, []), (.invokevirtual 90, 3, [87, 3, 6]), (.ifCond .ne 5, 3, [1]), (.iconst (-1), 1, []), (.ireturn, 1, [])]),
  (33, [(.aload_n 0, 1, []), (.iload_n 1, 1, []), (.invokevirtual 94, 3, [21, 2, 1]), (.istore_n 3, 1, []), (.iconst 0, 1, []), (.istore 4, 2, []), (.nop, 0, [2])]),
  (42, [(.iload 4, 2, []), (.iload_n 3, 1, []), (.invokestatic 97, 3, [316, 1]), (.if_icmp .gt 75, 3, [6]), (.sipush 255, 3, []), (.istore 5, 2, []), (.nop, 0, [3])]),
  (56, [(.iload 5, 2, []), (.ifCond .lt 59, 3, [5]), (.iload 5, 2, []), (.invokestatic 100, 3, [20, 1]), (.istore 6, 2, []), (.iload 6, 2, []), (.invokestatic 97, 3, [316, 1]), (.iload 4, 2, []), (.if_icmp .ne 36, 3, [4]), (.iload 6, 2, []), (.iload_n 3, 1, []), (.iconst (-1), 1, []), (.ixor, 1, []), (.iand, 1, []), (.ifCond .ne 27, 3, [4]), (.aload_n 0, 1, []), (.getfield 19, 3, [1, 2, 1]), (.iload 6, 2, []), (.invokevirtual 33, 3, [81, 2, 6]), (.aload_n 0, 1, []), (.getfield 19, 3, [1, 2, 1]), (.iload_n 1, 1, []), (.iload_n 2, 1, []), (.invokevirtual 90, 3, [87, 3, 6]), (.ifCond .eq 6, 3, [4]), (.iload 6, 2, []), (.ireturn, 1, [])]),
  (111, [(.iinc 5 (-1), 3, []), (.goto (-58), 3, [3])]),
  (117, [(.iinc 4 1, 3, []), (.goto (-78), 3, [2])]),
  (123, [(.iconst (-1), 1, []), (.ireturn, 1, [])])]
abbrev M_X1_fewestBars : Md := (22, 1, 7, (some .int), P_X1_fewestBars)
theorem ok_X1_fewestBars : k_okM M_X1_fewestBars := by unfold k_okM; decide +kernel
def P_X1_whyVias : CB := [(0, [(.aload_n 0, 1, []), (.getfield 15, 3, [1, 1, 1]), (.iload_n 1, 1, []), (.invokevirtual 103, 3, [50, 2, 3]), (.ifCond .eq 11, 3, [1]), (.aload_n 0, 1, []), (.iload_n 1, 1, []), (.invokevirtual 106, 3, [24, 2, 1]), (.goto 9, 3, [2])]),
  (19, [(.aload_n 0, 1, []), (.iload_n 1, 1, []), (.iconst 4, 1, []), (.invokevirtual 109, 3, [22, 3, 1]), (.nop, 0, [2])]),
  (25, [(.ireturn, 1, [])])]
abbrev M_X1_whyVias : Md := (23, 1, 2, (some .int), P_X1_whyVias)
theorem ok_X1_whyVias : k_okM M_X1_whyVias := by unfold k_okM; decide +kernel
def P_X1_fewestByRows : CB := [(0, [(.aload_n 0, 1, []), (.iload_n 1, 1, []), (.bipush 6, 2, []), (.invokevirtual 109, 3, [22, 3, 1]), (.iconst (-1), 1, []), (.if_icmp .ne 5, 3, [1]), (.iconst (-1), 1, []), (.ireturn, 1, [])]),
  (13, [(.aload_n 0, 1, []), (.iload_n 1, 1, []), (.invokevirtual 94, 3, [21, 2, 1]), (.istore_n 2, 1, []), (.iconst (-1), 1, []), (.istore_n 3, 1, []), (.aload_n 0, 1, []), (.getfield 15, 3, [1, 1, 1]), (.invokevirtual 112, 3, [57, 1, 3]), (.iconst 0, 1, []), (.istore 4, 2, []), (.nop, 0, [2])]),
  (31, [(.iload 4, 2, []), (.iload_n 2, 1, []), (.invokestatic 97, 3, [316, 1]), (.if_icmp .gt 74, 3, [6]), (.iload_n 3, 1, []), (.iconst (-1), 1, []), (.if_icmp .ne 69, 3, [6]), (.sipush 255, 3, []), (.istore 5, 2, []), (.nop, 0, [3])]),
  (50, [(.iload 5, 2, []), (.ifCond .lt 53, 3, [5]), (.iload_n 3, 1, []), (.iconst (-1), 1, []), (.if_icmp .ne 48, 3, [5]), (.iload 5, 2, []), (.invokestatic 100, 3, [20, 1]), (.istore 6, 2, []), (.iload 6, 2, []), (.invokestatic 97, 3, [316, 1]), (.iload 4, 2, []), (.if_icmp .ne 25, 3, [4]), (.iload 6, 2, []), (.iload_n 2, 1, []), (.iconst (-1), 1, []), (.ixor, 1, []), (.iand, 1, []), (.ifCond .ne 16, 3, [4]), (.aload_n 0, 1, []), (.iload_n 1, 1, []), (.iload 6, 2, []), (.invokevirtual 115, 3, [25, 3, 1]), (.ifCond .eq 6, 3, [4]), (.iload 6, 2, []), (.istore_n 3, 1, []), (.nop, 0, [4])]),
  (99, [(.iinc 5 (-1), 3, []), (.goto (-52), 3, [3])]),
  (105, [(.iinc 4 1, 3, []), (.goto (-77), 3, [2])]),
  (111, [(.aload_n 0, 1, []), (.getfield 15, 3, [1, 1, 1]), (.invokevirtual 118, 3, [58, 1, 3]), (.iload_n 3, 1, []), (.ireturn, 1, [])])]
abbrev M_X1_fewestByRows : Md := (24, 1, 7, (some .int), P_X1_fewestByRows)
theorem ok_X1_fewestByRows : k_okM M_X1_fewestByRows := by unfold k_okM; decide +kernel
def P_X1_layFlat : CB := [(0, [(.aload_n 0, 1, []), (.getfield 15, 3, [1, 1, 1]), (.iload_n 1, 1, []), (.invokevirtual 121, 3, [44, 2, 3]), (.aload_n 0, 1, []), (.getfield 19, 3, [1, 2, 1]), (.iload_n 2, 1, []), (.invokevirtual 33, 3, [81, 2, 6]), (.aload_n 0, 1, []), (.getfield 19, 3, [1, 2, 1]), (.iload_n 1, 1, []), (.bipush 6, 2, []), (.invokevirtual 90, 3, [87, 3, 6]), (.ifCond .eq 20, 3, [1]), (.aload_n 0, 1, []), (.getfield 23, 3, [1, 3, 1]), (.iload_n 1, 1, []), (.iconst 0, 1, []), (.invokevirtual 124, 3, [91, 3, 7]), (.iconst (-1), 1, []), (.if_icmp .eq 7, 3, [1]), (.iconst 1, 1, []), (.goto 4, 3, [2])]),
  (46, [(.iconst 0, 1, []), (.nop, 0, [2])]),
  (47, [(.ireturn, 1, [])])]
abbrev M_X1_layFlat : Md := (25, 1, 3, (some .boolean), P_X1_layFlat)
theorem ok_X1_layFlat : k_okM M_X1_layFlat := by unfold k_okM; decide +kernel
def P_X1_moveLate : CB := [(0, [(.aload_n 0, 1, []), (.getfield 15, 3, [1, 1, 1]), (.iload_n 1, 1, []), (.iload_n 2, 1, []), (.invokevirtual 37, 3, [36, 3, 3]), (.istore 4, 2, []), (.aload_n 0, 1, []), (.getfield 15, 3, [1, 1, 1]), (.invokevirtual 112, 3, [57, 1, 3]), (.aload_n 0, 1, []), (.getfield 15, 3, [1, 1, 1]), (.iload_n 1, 1, []), (.iload_n 2, 1, []), (.iload_n 3, 1, []), (.invokevirtual 130, 3, [38, 4, 3]), (.iconst 1, 1, []), (.aload_n 0, 1, []), (.getfield 15, 3, [1, 1, 1]), (.getfield 134, 3, [3, 14, 0]), (.ishl, 1, []), (.iconst 1, 1, []), (.isub, 1, []), (.iconst 1, 1, []), (.iload_n 1, 1, []), (.ishl, 1, []), (.iconst (-1), 1, []), (.ixor, 1, []), (.iand, 1, []), (.istore 5, 2, []), (.iconst 0, 1, []), (.istore 6, 2, []), (.nop, 0, [1])]),
  (50, [(.iload 6, 2, []), (.iconst 3, 1, []), (.if_icmp .gt 65, 3, [5]), (.sipush 255, 3, []), (.istore 7, 2, []), (.nop, 0, [2])]),
  (61, [(.iload 7, 2, []), (.ifCond .lt 49, 3, [4]), (.iload 7, 2, []), (.invokestatic 100, 3, [20, 1]), (.istore 8, 2, []), (.iload 8, 2, []), (.invokestatic 97, 3, [316, 1]), (.iload 6, 2, []), (.if_icmp .ne 26, 3, [3]), (.iload 8, 2, []), (.iload 5, 2, []), (.iconst (-1), 1, []), (.ixor, 1, []), (.iand, 1, []), (.ifCond .ne 16, 3, [3]), (.aload_n 0, 1, []), (.iload_n 1, 1, []), (.iload 8, 2, []), (.invokevirtual 137, 3, [27, 3, 1]), (.ifCond .eq 6, 3, [3]), (.iload 8, 2, []), (.ireturn, 1, [])]),
  (106, [(.iinc 7 (-1), 3, []), (.goto (-48), 3, [2])]),
  (112, [(.iinc 6 1, 3, []), (.goto (-65), 3, [1])]),
  (118, [(.aload_n 0, 1, []), (.getfield 15, 3, [1, 1, 1]), (.invokevirtual 118, 3, [58, 1, 3]), (.aload_n 0, 1, []), (.getfield 15, 3, [1, 1, 1]), (.iload_n 1, 1, []), (.iload_n 2, 1, []), (.iload 4, 2, []), (.invokevirtual 130, 3, [38, 4, 3]), (.iconst (-1), 1, []), (.ireturn, 1, [])])]
abbrev M_X1_moveLate : Md := (26, 1, 9, (some .int), P_X1_moveLate)
theorem ok_X1_moveLate : k_okM M_X1_moveLate := by unfold k_okM; decide +kernel
def P_X1_layWith : CB := [(0, [(.aload_n 0, 1, []), (.getfield 15, 3, [1, 1, 1]), (.invokevirtual 118, 3, [58, 1, 3]), (.aload_n 0, 1, []), (.getfield 15, 3, [1, 1, 1]), (.iload_n 1, 1, []), (.invokevirtual 121, 3, [44, 2, 3]), (.iconst 0, 1, []), (.istore_n 3, 1, []), (.nop, 0, [1])]),
  (17, [(.iload_n 3, 1, []), (.aload_n 0, 1, []), (.getfield 15, 3, [1, 1, 1]), (.getfield 134, 3, [3, 14, 0]), (.if_icmp .ge 25, 3, [3]), (.iload_n 2, 1, []), (.iload_n 3, 1, []), (.ishr, 1, []), (.iconst 1, 1, []), (.iand, 1, []), (.ifCond .eq 11, 3, [2]), (.aload_n 0, 1, []), (.getfield 15, 3, [1, 1, 1]), (.iload_n 3, 1, []), (.invokevirtual 121, 3, [44, 2, 3]), (.nop, 0, [2])]),
  (44, [(.iinc 3 1, 3, []), (.goto (-30), 3, [1])]),
  (50, [(.aload_n 0, 1, []), (.getfield 23, 3, [1, 3, 1]), (.iload_n 1, 1, []), (.invokevirtual 140, 3, [89, 2, 7]), (.iconst (-1), 1, []), (.if_icmp .eq 7, 3, [4]), (.iconst 1, 1, []), (.goto 4, 3, [5])]),
  (66, [(.iconst 0, 1, []), (.nop, 0, [5])]),
  (67, [(.istore_n 3, 1, []), (.iconst 0, 1, []), (.istore 4, 2, []), (.nop, 0, [6])]),
  (71, [(.iload 4, 2, []), (.aload_n 0, 1, []), (.getfield 15, 3, [1, 1, 1]), (.getfield 134, 3, [3, 14, 0]), (.if_icmp .ge 41, 3, [10]), (.iload_n 3, 1, []), (.ifCond .eq 37, 3, [10]), (.iload_n 2, 1, []), (.iload 4, 2, []), (.ishr, 1, []), (.iconst 1, 1, []), (.iand, 1, []), (.ifCond .eq 22, 3, [9]), (.aload_n 0, 1, []), (.getfield 23, 3, [1, 3, 1]), (.iload 4, 2, []), (.invokevirtual 140, 3, [89, 2, 7]), (.iconst (-1), 1, []), (.if_icmp .eq 7, 3, [7]), (.iconst 1, 1, []), (.goto 4, 3, [8])]),
  (113, [(.iconst 0, 1, []), (.nop, 0, [8])]),
  (114, [(.istore_n 3, 1, []), (.nop, 0, [9])]),
  (115, [(.iinc 4 1, 3, []), (.goto (-47), 3, [6])]),
  (121, [(.iload_n 3, 1, []), (.ireturn, 1, [])])]
abbrev M_X1_layWith : Md := (27, 1, 5, (some .boolean), P_X1_layWith)
theorem ok_X1_layWith : k_okM M_X1_layWith := by unfold k_okM; decide +kernel
def P_X2_cellAt : CB := [(0, [(.iload_n 1, 1, []), (.ifCond .lt 35, 3, [1]), (.iload_n 1, 1, []), (.aload_n 0, 1, []), (.getfield 9, 3, [2, 0, 0]), (.if_icmp .ge 27, 3, [1]), (.iload_n 2, 1, []), (.ifCond .lt 23, 3, [1]), (.iload_n 2, 1, []), (.aload_n 0, 1, []), (.getfield 15, 3, [2, 1, 0]), (.if_icmp .ge 15, 3, [1]), (.iload_n 3, 1, []), (.ifCond .lt 11, 3, [1]), (.iload_n 3, 1, []), (.aload_n 0, 1, []), (.getfield 18, 3, [2, 2, 0]), (.if_icmp .lt 5, 3, [2]), (.nop, 0, [1])]),
  (36, [(.iconst (-1), 1, []), (.ireturn, 1, [])]),
  (38, [(.iload_n 3, 1, []), (.aload_n 0, 1, []), (.getfield 21, 3, [2, 3, 0]), (.imul, 1, []), (.iload_n 2, 1, []), (.aload_n 0, 1, []), (.getfield 9, 3, [2, 0, 0]), (.imul, 1, []), (.iadd, 1, []), (.iload_n 1, 1, []), (.iadd, 1, []), (.ireturn, 1, [])])]
abbrev M_X2_cellAt : Md := (29, 2, 4, (some .int), P_X2_cellAt)
theorem ok_X2_cellAt : k_okM M_X2_cellAt := by unfold k_okM; decide +kernel
def P_X2_allLayers : CB := [(0, [(.iconst 1, 1, []), (.aload_n 0, 1, []), (.getfield 18, 3, [2, 2, 0]), (.ishl, 1, []), (.iconst 1, 1, []), (.isub, 1, []), (.ireturn, 1, [])])]
abbrev M_X2_allLayers : Md := (30, 2, 1, (some .int), P_X2_allLayers)
theorem ok_X2_allLayers : k_okM M_X2_allLayers := by unfold k_okM; decide +kernel
def P_X3_addSort : CB := [(0, [(.aload_n 1, 1, []), (.iconst 0, 1, []), (.aload_n 0, 1, []), (.getfield 9, 3, [3, 1, 1]), (.aload_n 0, 1, []), (.getfield 58, 3, [3, 13, 0]), (.iconst 5, 1, []), (.imul, 1, []), (.iconst 5, 1, []), (.invokestatic 61, 3, []), (.aload_n 0, 1, []), (.dup, 1, []), (.getfield 58, 3, [3, 13, 0]), (.iconst 1, 1, []), (.iadd, 1, []), (.putfield 58, 3, [3, 13, 0]), (.aload_n 0, 1, []), (.getfield 58, 3, [3, 13, 0]), (.iconst 1, 1, []), (.isub, 1, []), (.ireturn, 1, [])])]
abbrev M_X3_addSort : Md := (32, 3, 2, (some .int), P_X3_addSort)
theorem ok_X3_addSort : k_okM M_X3_addSort := by unfold k_okM; decide +kernel
def P_X3_addNet : CB := [(0, [(.aload_n 0, 1, []), (.getfield 15, 3, [3, 2, 1]), (.aload_n 0, 1, []), (.getfield 67, 3, [3, 14, 0]), (.iload_n 1, 1, []), (.iastore, 1, []), (.aload_n 0, 1, []), (.dup, 1, []), (.getfield 67, 3, [3, 14, 0]), (.iconst 1, 1, []), (.iadd, 1, []), (.putfield 67, 3, [3, 14, 0]), (.aload_n 0, 1, []), (.getfield 67, 3, [3, 14, 0]), (.iconst 1, 1, []), (.isub, 1, []), (.ireturn, 1, [])])]
abbrev M_X3_addNet : Md := (33, 3, 2, (some .int), P_X3_addNet)
theorem ok_X3_addNet : k_okM M_X3_addNet := by unfold k_okM; decide +kernel
def P_X3_setting : CB := [(0, [(.aload_n 0, 1, []), (.getfield 9, 3, [3, 1, 1]), (.aload_n 0, 1, []), (.getfield 15, 3, [3, 2, 1]), (.iload_n 1, 1, []), (.iaload, 1, []), (.iconst 5, 1, []), (.imul, 1, []), (.iload_n 2, 1, []), (.iadd, 1, []), (.iaload, 1, []), (.ireturn, 1, [])])]
abbrev M_X3_setting : Md := (34, 3, 3, (some .int), P_X3_setting)
theorem ok_X3_setting : k_okM M_X3_setting := by unfold k_okM; decide +kernel
def P_X3_hasPin : CB := [(0, [(.iconst 0, 1, []), (.istore_n 2, 1, []), (.nop, 0, [1])]),
  (2, [(.iload_n 2, 1, []), (.aload_n 0, 1, []), (.getfield 67, 3, [3, 14, 0]), (.if_icmp .ge 39, 3, [5]), (.iconst 0, 1, []), (.istore_n 3, 1, []), (.nop, 0, [2])]),
  (12, [(.iload_n 3, 1, []), (.aload_n 0, 1, []), (.getfield 21, 3, [3, 4, 1]), (.iload_n 2, 1, []), (.iaload, 1, []), (.if_icmp .ge 21, 3, [4]), (.aload_n 0, 1, []), (.iload_n 2, 1, []), (.iload_n 3, 1, []), (.invokevirtual 70, 3, [36, 3, 3]), (.iload_n 1, 1, []), (.if_icmp .ne 5, 3, [3]), (.iconst 1, 1, []), (.ireturn, 1, [])]),
  (34, [(.iinc 3 1, 3, []), (.goto (-25), 3, [2])]),
  (40, [(.iinc 2 1, 3, []), (.goto (-41), 3, [1])]),
  (46, [(.iconst 0, 1, []), (.ireturn, 1, [])])]
abbrev M_X3_hasPin : Md := (35, 3, 4, (some .boolean), P_X3_hasPin)
theorem ok_X3_hasPin : k_okM M_X3_hasPin := by unfold k_okM; decide +kernel
def P_X3_pinCell : CB := [(0, [(.aload_n 0, 1, []), (.getfield 24, 3, [3, 5, 1]), (.iload_n 1, 1, []), (.iconst 4, 1, []), (.imul, 1, []), (.iload_n 2, 1, []), (.iadd, 1, []), (.iaload, 1, []), (.ireturn, 1, [])])]
abbrev M_X3_pinCell : Md := (36, 3, 3, (some .int), P_X3_pinCell)
theorem ok_X3_pinCell : k_okM M_X3_pinCell := by unfold k_okM; decide +kernel
end
section
/-! code as data (written by wip/whole/gencode.py) -/
def P_X3_addPin : CB := [(0, [(.aload_n 0, 1, []), (.getfield 21, 3, [3, 4, 1]), (.iload_n 1, 1, []), (.iaload, 1, []), (.istore_n 3, 1, []), (.aload_n 0, 1, []), (.getfield 24, 3, [3, 5, 1]), (.iload_n 1, 1, []), (.iconst 4, 1, []), (.imul, 1, []), (.iload_n 3, 1, []), (.iadd, 1, []), (.iload_n 2, 1, []), (.iastore, 1, []), (.aload_n 0, 1, []), (.getfield 21, 3, [3, 4, 1]), (.iload_n 1, 1, []), (.dup2, 1, []), (.iaload, 1, []), (.iconst 1, 1, []), (.iadd, 1, []), (.iastore, 1, []), (.aload_n 0, 1, []), (.getfield 40, 3, [3, 7, 1]), (.iload_n 2, 1, []), (.dup2, 1, []), (.iaload, 1, []), (.iconst 1, 1, []), (.iload_n 1, 1, []), (.ishl, 1, []), (.ior, 1, []), (.iastore, 1, []), (.iload_n 3, 1, []), (.ireturn, 1, [])])]
abbrev M_X3_addPin : Md := (37, 3, 4, (some .int), P_X3_addPin)
theorem ok_X3_addPin : k_okM M_X3_addPin := by unfold k_okM; decide +kernel
def P_X3_movePin : CB := [(0, [(.aload_n 0, 1, []), (.getfield 24, 3, [3, 5, 1]), (.iload_n 1, 1, []), (.iconst 4, 1, []), (.imul, 1, []), (.iload_n 2, 1, []), (.iadd, 1, []), (.iload_n 3, 1, []), (.iastore, 1, []), (.aload_n 0, 1, []), (.iload_n 1, 1, []), (.invokevirtual 74, 3, [47, 2, 3]), (.return_, 1, [])])]
abbrev M_X3_movePin : Md := (38, 3, 4, none, P_X3_movePin)
theorem ok_X3_movePin : k_okM M_X3_movePin := by unfold k_okM; decide +kernel
def P_X3_close : CB := [(0, [(.iload_n 2, 1, []), (.istore 6, 2, []), (.nop, 0, [1])]),
  (3, [(.iload 6, 2, []), (.iload 4, 2, []), (.if_icmp .gt 54, 3, [4]), (.iload_n 1, 1, []), (.istore 7, 2, []), (.nop, 0, [2])]),
  (13, [(.iload 7, 2, []), (.iload_n 3, 1, []), (.if_icmp .gt 39, 3, [3]), (.aload_n 0, 1, []), (.getfield 37, 3, [3, 6, 1]), (.iload 5, 2, []), (.aload_n 0, 1, []), (.getfield 27, 3, [3, 0, 1]), (.getfield 78, 3, [2, 3, 0]), (.imul, 1, []), (.iload 6, 2, []), (.aload_n 0, 1, []), (.getfield 27, 3, [3, 0, 1]), (.getfield 81, 3, [2, 0, 0]), (.imul, 1, []), (.iadd, 1, []), (.iload 7, 2, []), (.iadd, 1, []), (.iconst 1, 1, []), (.iastore, 1, []), (.iinc 7 1, 3, []), (.goto (-39), 3, [2])]),
  (55, [(.iinc 6 1, 3, []), (.goto (-55), 3, [1])]),
  (61, [(.return_, 1, [])])]
abbrev M_X3_close : Md := (39, 3, 8, none, P_X3_close)
theorem ok_X3_close : k_okM M_X3_close := by unfold k_okM; decide +kernel
def P_X3_addWire : CB := [(0, [(.iload_n 2, 1, []), (.istore 5, 2, []), (.iconst 0, 1, []), (.istore 6, 2, []), (.nop, 0, [1])]),
  (6, [(.iload 6, 2, []), (.iload 4, 2, []), (.if_icmp .ge 33, 3, [2]), (.iload 5, 2, []), (.iconst (-1), 1, []), (.if_icmp .eq 27, 3, [2]), (.aload_n 0, 1, []), (.aload_n 0, 1, []), (.getfield 46, 3, [3, 9, 1]), (.aload_n 0, 1, []), (.getfield 40, 3, [3, 7, 1]), (.iload_n 1, 1, []), (.iload 5, 2, []), (.iload_n 3, 1, []), (.invokevirtual 84, 3, [42, 6, 3]), (.istore 5, 2, []), (.iinc 6 1, 3, []), (.goto (-34), 3, [1])]),
  (43, [(.return_, 1, [])])]
abbrev M_X3_addWire : Md := (40, 3, 7, none, P_X3_addWire)
theorem ok_X3_addWire : k_okM M_X3_addWire := by unfold k_okM; decide +kernel
def P_X3_addTrace : CB := [(0, [(.aload_n 0, 1, []), (.aload_n 0, 1, []), (.getfield 49, 3, [3, 10, 1]), (.aload_n 0, 1, []), (.getfield 43, 3, [3, 8, 1]), (.iload_n 1, 1, []), (.iload_n 2, 1, []), (.iload_n 3, 1, []), (.invokevirtual 84, 3, [42, 6, 3]), (.ireturn, 1, [])])]
abbrev M_X3_addTrace : Md := (41, 3, 4, (some .int), P_X3_addTrace)
theorem ok_X3_addTrace : k_okM M_X3_addTrace := by unfold k_okM; decide +kernel
def P_X3_join : CB := [(0, [(.aload_n 0, 1, []), (.getfield 27, 3, [3, 0, 1]), (.getfield 88, 3, [2, 5, 1]), (.iload 4, 2, []), (.bipush 6, 2, []), (.imul, 1, []), (.iload 5, 2, []), (.iadd, 1, []), (.iaload, 1, []), (.istore 6, 2, []), (.iload 6, 2, []), (.iconst (-1), 1, []), (.if_icmp .ne 5, 3, [1]), (.iconst (-1), 1, []), (.ireturn, 1, [])]),
  (26, [(.aload_n 1, 1, []), (.iload_n 3, 1, []), (.aload_n 0, 1, []), (.getfield 27, 3, [3, 0, 1]), (.getfield 31, 3, [2, 4, 0]), (.imul, 1, []), (.iload 4, 2, []), (.iadd, 1, []), (.dup2, 1, []), (.iaload, 1, []), (.iconst 1, 1, []), (.iload 5, 2, []), (.ishl, 1, []), (.ior, 1, []), (.iastore, 1, []), (.aload_n 1, 1, []), (.iload_n 3, 1, []), (.aload_n 0, 1, []), (.getfield 27, 3, [3, 0, 1]), (.getfield 31, 3, [2, 4, 0]), (.imul, 1, []), (.iload 6, 2, []), (.iadd, 1, []), (.dup2, 1, []), (.iaload, 1, []), (.iconst 1, 1, []), (.getstatic 91, 3, [0]), (.iload 5, 2, []), (.iaload, 1, []), (.ishl, 1, []), (.ior, 1, []), (.iastore, 1, []), (.aload_n 2, 1, []), (.iload 4, 2, []), (.dup2, 1, []), (.iaload, 1, []), (.iconst 1, 1, []), (.iload_n 3, 1, []), (.ishl, 1, []), (.ior, 1, []), (.iastore, 1, []), (.aload_n 2, 1, []), (.iload 6, 2, []), (.dup2, 1, []), (.iaload, 1, []), (.iconst 1, 1, []), (.iload_n 3, 1, []), (.ishl, 1, []), (.ior, 1, []), (.iastore, 1, []), (.iload 6, 2, []), (.ireturn, 1, [])])]
abbrev M_X3_join : Md := (42, 3, 7, (some .int), P_X3_join)
theorem ok_X3_join : k_okM M_X3_join := by unfold k_okM; decide +kernel
def P_X3_dropTrace : CB := [(0, [(.aload_n 0, 1, []), (.getfield 27, 3, [3, 0, 1]), (.getfield 88, 3, [2, 5, 1]), (.iload_n 2, 1, []), (.bipush 6, 2, []), (.imul, 1, []), (.iload_n 3, 1, []), (.iadd, 1, []), (.iaload, 1, []), (.istore 4, 2, []), (.iload 4, 2, []), (.iconst (-1), 1, []), (.if_icmp .eq 56, 3, [1]), (.aload_n 0, 1, []), (.getfield 49, 3, [3, 10, 1]), (.iload_n 1, 1, []), (.aload_n 0, 1, []), (.getfield 27, 3, [3, 0, 1]), (.getfield 31, 3, [2, 4, 0]), (.imul, 1, []), (.iload_n 2, 1, []), (.iadd, 1, []), (.dup2, 1, []), (.iaload, 1, []), (.iconst 1, 1, []), (.iload_n 3, 1, []), (.ishl, 1, []), (.iconst (-1), 1, []), (.ixor, 1, []), (.iand, 1, []), (.iastore, 1, []), (.aload_n 0, 1, []), (.getfield 49, 3, [3, 10, 1]), (.iload_n 1, 1, []), (.aload_n 0, 1, []), (.getfield 27, 3, [3, 0, 1]), (.getfield 31, 3, [2, 4, 0]), (.imul, 1, []), (.iload 4, 2, []), (.iadd, 1, []), (.dup2, 1, []), (.iaload, 1, []), (.iconst 1, 1, []), (.getstatic 91, 3, [0]), (.iload_n 3, 1, []), (.iaload, 1, []), (.ishl, 1, []), (.iconst (-1), 1, []), (.ixor, 1, []), (.iand, 1, []), (.iastore, 1, []), (.nop, 0, [1])]),
  (75, [(.return_, 1, [])])]
abbrev M_X3_dropTrace : Md := (43, 3, 5, none, P_X3_dropTrace)
theorem ok_X3_dropTrace : k_okM M_X3_dropTrace := by unfold k_okM; decide +kernel
def P_X3_removeTraces : CB := [(0, [(.aload_n 0, 1, []), (.getfield 49, 3, [3, 10, 1]), (.iload_n 1, 1, []), (.aload_n 0, 1, []), (.getfield 27, 3, [3, 0, 1]), (.getfield 31, 3, [2, 4, 0]), (.imul, 1, []), (.iload_n 1, 1, []), (.iconst 1, 1, []), (.iadd, 1, []), (.aload_n 0, 1, []), (.getfield 27, 3, [3, 0, 1]), (.getfield 31, 3, [2, 4, 0]), (.imul, 1, []), (.iconst 0, 1, []), (.invokestatic 94, 3, [324, 4]), (.iconst 0, 1, []), (.istore_n 2, 1, []), (.nop, 0, [1])]),
  (30, [(.iload_n 2, 1, []), (.aload_n 0, 1, []), (.getfield 27, 3, [3, 0, 1]), (.getfield 31, 3, [2, 4, 0]), (.if_icmp .ge 23, 3, [2]), (.aload_n 0, 1, []), (.getfield 43, 3, [3, 8, 1]), (.iload_n 2, 1, []), (.dup2, 1, []), (.iaload, 1, []), (.iconst 1, 1, []), (.iload_n 1, 1, []), (.ishl, 1, []), (.iconst (-1), 1, []), (.ixor, 1, []), (.iand, 1, []), (.iastore, 1, []), (.iinc 2 1, 3, []), (.goto (-28), 3, [1])]),
  (61, [(.return_, 1, [])])]
abbrev M_X3_removeTraces : Md := (44, 3, 3, none, P_X3_removeTraces)
theorem ok_X3_removeTraces : k_okM M_X3_removeTraces := by unfold k_okM; decide +kernel
def P_X3_removeAllTraces : CB := [(0, [(.aload_n 0, 1, []), (.getfield 49, 3, [3, 10, 1]), (.iconst 0, 1, []), (.invokestatic 100, 3, [323, 2]), (.aload_n 0, 1, []), (.getfield 43, 3, [3, 8, 1]), (.iconst 0, 1, []), (.invokestatic 100, 3, [323, 2]), (.return_, 1, [])])]
abbrev M_X3_removeAllTraces : Md := (45, 3, 1, none, P_X3_removeAllTraces)
theorem ok_X3_removeAllTraces : k_okM M_X3_removeAllTraces := by unfold k_okM; decide +kernel
def P_X3_removeWires : CB := [(0, [(.aload_n 0, 1, []), (.getfield 46, 3, [3, 9, 1]), (.iload_n 1, 1, []), (.aload_n 0, 1, []), (.getfield 27, 3, [3, 0, 1]), (.getfield 31, 3, [2, 4, 0]), (.imul, 1, []), (.iload_n 1, 1, []), (.iconst 1, 1, []), (.iadd, 1, []), (.aload_n 0, 1, []), (.getfield 27, 3, [3, 0, 1]), (.getfield 31, 3, [2, 4, 0]), (.imul, 1, []), (.iconst 0, 1, []), (.invokestatic 94, 3, [324, 4]), (.aload_n 0, 1, []), (.iload_n 1, 1, []), (.invokevirtual 74, 3, [47, 2, 3]), (.return_, 1, [])])]
abbrev M_X3_removeWires : Md := (46, 3, 2, none, P_X3_removeWires)
theorem ok_X3_removeWires : k_okM M_X3_removeWires := by unfold k_okM; decide +kernel
def P_X3_settle : CB := [(0, [(.iconst 0, 1, []), (.istore_n 2, 1, []), (.nop, 0, [1])]),
  (2, [(.iload_n 2, 1, []), (.aload_n 0, 1, []), (.getfield 27, 3, [3, 0, 1]), (.getfield 31, 3, [2, 4, 0]), (.if_icmp .ge 57, 3, [4]), (.aload_n 0, 1, []), (.getfield 46, 3, [3, 9, 1]), (.iload_n 1, 1, []), (.aload_n 0, 1, []), (.getfield 27, 3, [3, 0, 1]), (.getfield 31, 3, [2, 4, 0]), (.imul, 1, []), (.iload_n 2, 1, []), (.iadd, 1, []), (.iaload, 1, []), (.ifCond .eq 18, 3, [2]), (.aload_n 0, 1, []), (.getfield 40, 3, [3, 7, 1]), (.iload_n 2, 1, []), (.dup2, 1, []), (.iaload, 1, []), (.iconst 1, 1, []), (.iload_n 1, 1, []), (.ishl, 1, []), (.ior, 1, []), (.iastore, 1, []), (.goto 17, 3, [3])]),
  (47, [(.aload_n 0, 1, []), (.getfield 40, 3, [3, 7, 1]), (.iload_n 2, 1, []), (.dup2, 1, []), (.iaload, 1, []), (.iconst 1, 1, []), (.iload_n 1, 1, []), (.ishl, 1, []), (.iconst (-1), 1, []), (.ixor, 1, []), (.iand, 1, []), (.iastore, 1, []), (.nop, 0, [3])]),
  (61, [(.iinc 2 1, 3, []), (.goto (-62), 3, [1])]),
  (67, [(.iconst 0, 1, []), (.istore_n 2, 1, []), (.nop, 0, [5])]),
  (69, [(.iload_n 2, 1, []), (.aload_n 0, 1, []), (.getfield 21, 3, [3, 4, 1]), (.iload_n 1, 1, []), (.iaload, 1, []), (.if_icmp .ge 26, 3, [6]), (.aload_n 0, 1, []), (.getfield 40, 3, [3, 7, 1]), (.aload_n 0, 1, []), (.iload_n 1, 1, []), (.iload_n 2, 1, []), (.invokevirtual 70, 3, [36, 3, 3]), (.dup2, 1, []), (.iaload, 1, []), (.iconst 1, 1, []), (.iload_n 1, 1, []), (.ishl, 1, []), (.ior, 1, []), (.iastore, 1, []), (.iinc 2 1, 3, []), (.goto (-30), 3, [5])]),
  (102, [(.return_, 1, [])])]
abbrev M_X3_settle : Md := (47, 3, 3, none, P_X3_settle)
theorem ok_X3_settle : k_okM M_X3_settle := by unfold k_okM; decide +kernel
def P_X3_hasTraces : CB := [(0, [(.aload_n 0, 1, []), (.aload_n 0, 1, []), (.getfield 49, 3, [3, 10, 1]), (.iload_n 1, 1, []), (.bipush 63, 2, []), (.invokevirtual 103, 3, [51, 4, 3]), (.ireturn, 1, [])])]
abbrev M_X3_hasTraces : Md := (48, 3, 2, (some .boolean), P_X3_hasTraces)
theorem ok_X3_hasTraces : k_okM M_X3_hasTraces := by unfold k_okM; decide +kernel
def P_X3_hasWires : CB := [(0, [(.aload_n 0, 1, []), (.aload_n 0, 1, []), (.getfield 46, 3, [3, 9, 1]), (.iload_n 1, 1, []), (.bipush 63, 2, []), (.invokevirtual 103, 3, [51, 4, 3]), (.ireturn, 1, [])])]
abbrev M_X3_hasWires : Md := (49, 3, 2, (some .boolean), P_X3_hasWires)
theorem ok_X3_hasWires : k_okM M_X3_hasWires := by unfold k_okM; decide +kernel
def P_X3_hasHoles : CB := [(0, [(.aload_n 0, 1, []), (.aload_n 0, 1, []), (.getfield 46, 3, [3, 9, 1]), (.iload_n 1, 1, []), (.bipush 16, 2, []), (.invokevirtual 103, 3, [51, 4, 3]), (.ireturn, 1, [])])]
abbrev M_X3_hasHoles : Md := (50, 3, 2, (some .boolean), P_X3_hasHoles)
theorem ok_X3_hasHoles : k_okM M_X3_hasHoles := by unfold k_okM; decide +kernel
def P_X3_anyMove : CB := [(0, [(.iconst 0, 1, []), (.istore 4, 2, []), (.nop, 0, [1])]),
  (3, [(.iload 4, 2, []), (.aload_n 0, 1, []), (.getfield 27, 3, [3, 0, 1]), (.getfield 31, 3, [2, 4, 0]), (.if_icmp .ge 30, 3, [3]), (.aload_n 1, 1, []), (.iload_n 2, 1, []), (.aload_n 0, 1, []), (.getfield 27, 3, [3, 0, 1]), (.getfield 31, 3, [2, 4, 0]), (.imul, 1, []), (.iload 4, 2, []), (.iadd, 1, []), (.iaload, 1, []), (.iload_n 3, 1, []), (.iand, 1, []), (.ifCond .eq 5, 3, [2]), (.iconst 1, 1, []), (.ireturn, 1, [])]),
  (36, [(.iinc 4 1, 3, []), (.goto (-36), 3, [1])]),
  (42, [(.iconst 0, 1, []), (.ireturn, 1, [])])]
abbrev M_X3_anyMove : Md := (51, 3, 5, (some .boolean), P_X3_anyMove)
theorem ok_X3_anyMove : k_okM M_X3_anyMove := by unfold k_okM; decide +kernel
def P_X3_copperAt : CB := [(0, [(.aload_n 0, 1, []), (.getfield 40, 3, [3, 7, 1]), (.iload_n 1, 1, []), (.iaload, 1, []), (.aload_n 0, 1, []), (.getfield 43, 3, [3, 8, 1]), (.iload_n 1, 1, []), (.iaload, 1, []), (.ior, 1, []), (.ireturn, 1, [])])]
abbrev M_X3_copperAt : Md := (52, 3, 2, (some .int), P_X3_copperAt)
theorem ok_X3_copperAt : k_okM M_X3_copperAt := by unfold k_okM; decide +kernel
def P_X3_movesAt : CB := [(0, [(.aload_n 0, 1, []), (.getfield 46, 3, [3, 9, 1]), (.iload_n 1, 1, []), (.aload_n 0, 1, []), (.getfield 27, 3, [3, 0, 1]), (.getfield 31, 3, [2, 4, 0]), (.imul, 1, []), (.iload_n 2, 1, []), (.iadd, 1, []), (.iaload, 1, []), (.aload_n 0, 1, []), (.getfield 49, 3, [3, 10, 1]), (.iload_n 1, 1, []), (.aload_n 0, 1, []), (.getfield 27, 3, [3, 0, 1]), (.getfield 31, 3, [2, 4, 0]), (.imul, 1, []), (.iload_n 2, 1, []), (.iadd, 1, []), (.iaload, 1, []), (.ior, 1, []), (.ireturn, 1, [])])]
abbrev M_X3_movesAt : Md := (53, 3, 3, (some .int), P_X3_movesAt)
theorem ok_X3_movesAt : k_okM M_X3_movesAt := by unfold k_okM; decide +kernel
def P_X3_lengthOf : CB := [(0, [(.iconst 0, 1, []), (.istore_n 2, 1, []), (.iconst 0, 1, []), (.istore_n 3, 1, []), (.nop, 0, [1])]),
  (4, [(.iload_n 3, 1, []), (.aload_n 0, 1, []), (.getfield 27, 3, [3, 0, 1]), (.getfield 31, 3, [2, 4, 0]), (.if_icmp .ge 34, 3, [2]), (.iload_n 2, 1, []), (.aload_n 0, 1, []), (.getfield 49, 3, [3, 10, 1]), (.iload_n 1, 1, []), (.aload_n 0, 1, []), (.getfield 27, 3, [3, 0, 1]), (.getfield 31, 3, [2, 4, 0]), (.imul, 1, []), (.iload_n 3, 1, []), (.iadd, 1, []), (.iaload, 1, []), (.bipush 6, 2, []), (.iand, 1, []), (.invokestatic 107, 3, [316, 1]), (.iadd, 1, []), (.istore_n 2, 1, []), (.iinc 3 1, 3, []), (.goto (-39), 3, [1])]),
  (46, [(.iload_n 2, 1, []), (.ireturn, 1, [])])]
abbrev M_X3_lengthOf : Md := (54, 3, 4, (some .int), P_X3_lengthOf)
theorem ok_X3_lengthOf : k_okM M_X3_lengthOf := by unfold k_okM; decide +kernel
def P_X3_viasOf : CB := [(0, [(.iconst 0, 1, []), (.istore_n 2, 1, []), (.iconst 0, 1, []), (.istore_n 3, 1, []), (.nop, 0, [1])]),
  (4, [(.iload_n 3, 1, []), (.aload_n 0, 1, []), (.getfield 27, 3, [3, 0, 1]), (.getfield 31, 3, [2, 4, 0]), (.if_icmp .ge 32, 3, [2]), (.iload_n 2, 1, []), (.aload_n 0, 1, []), (.getfield 49, 3, [3, 10, 1]), (.iload_n 1, 1, []), (.aload_n 0, 1, []), (.getfield 27, 3, [3, 0, 1]), (.getfield 31, 3, [2, 4, 0]), (.imul, 1, []), (.iload_n 3, 1, []), (.iadd, 1, []), (.iaload, 1, []), (.iconst 4, 1, []), (.ishr, 1, []), (.iconst 1, 1, []), (.iand, 1, []), (.iadd, 1, []), (.istore_n 2, 1, []), (.iinc 3 1, 3, []), (.goto (-37), 3, [1])]),
  (44, [(.iload_n 2, 1, []), (.ireturn, 1, [])])]
abbrev M_X3_viasOf : Md := (55, 3, 4, (some .int), P_X3_viasOf)
theorem ok_X3_viasOf : k_okM M_X3_viasOf := by unfold k_okM; decide +kernel
def P_X3_cellsOf : CB := [(0, [(.iconst 0, 1, []), (.istore_n 2, 1, []), (.iconst 0, 1, []), (.istore_n 3, 1, []), (.nop, 0, [1])]),
  (4, [(.iload_n 3, 1, []), (.aload_n 0, 1, []), (.getfield 27, 3, [3, 0, 1]), (.getfield 31, 3, [2, 4, 0]), (.if_icmp .ge 21, 3, [2]), (.iload_n 2, 1, []), (.aload_n 0, 1, []), (.iload_n 3, 1, []), (.invokevirtual 113, 3, [52, 2, 3]), (.iload_n 1, 1, []), (.ishr, 1, []), (.iconst 1, 1, []), (.iand, 1, []), (.iadd, 1, []), (.istore_n 2, 1, []), (.iinc 3 1, 3, []), (.goto (-26), 3, [1])]),
  (33, [(.iload_n 2, 1, []), (.ireturn, 1, [])])]
abbrev M_X3_cellsOf : Md := (56, 3, 4, (some .int), P_X3_cellsOf)
theorem ok_X3_cellsOf : k_okM M_X3_cellsOf := by unfold k_okM; decide +kernel
def P_X3_saveTraces : CB := [(0, [(.aload_n 0, 1, []), (.getfield 49, 3, [3, 10, 1]), (.iconst 0, 1, []), (.aload_n 0, 1, []), (.getfield 55, 3, [3, 12, 1]), (.iconst 0, 1, []), (.aload_n 0, 1, []), (.getfield 49, 3, [3, 10, 1]), (.arraylength, 1, []), (.invokestatic 61, 3, []), (.aload_n 0, 1, []), (.getfield 43, 3, [3, 8, 1]), (.iconst 0, 1, []), (.aload_n 0, 1, []), (.getfield 52, 3, [3, 11, 1]), (.iconst 0, 1, []), (.aload_n 0, 1, []), (.getfield 43, 3, [3, 8, 1]), (.arraylength, 1, []), (.invokestatic 61, 3, []), (.return_, 1, [])])]
abbrev M_X3_saveTraces : Md := (57, 3, 1, none, P_X3_saveTraces)
theorem ok_X3_saveTraces : k_okM M_X3_saveTraces := by unfold k_okM; decide +kernel
def P_X3_restoreTraces : CB := [(0, [(.aload_n 0, 1, []), (.getfield 55, 3, [3, 12, 1]), (.iconst 0, 1, []), (.aload_n 0, 1, []), (.getfield 49, 3, [3, 10, 1]), (.iconst 0, 1, []), (.aload_n 0, 1, []), (.getfield 49, 3, [3, 10, 1]), (.arraylength, 1, []), (.invokestatic 61, 3, []), (.aload_n 0, 1, []), (.getfield 52, 3, [3, 11, 1]), (.iconst 0, 1, []), (.aload_n 0, 1, []), (.getfield 43, 3, [3, 8, 1]), (.iconst 0, 1, []), (.aload_n 0, 1, []), (.getfield 43, 3, [3, 8, 1]), (.arraylength, 1, []), (.invokestatic 61, 3, []), (.return_, 1, [])])]
abbrev M_X3_restoreTraces : Md := (58, 3, 1, none, P_X3_restoreTraces)
theorem ok_X3_restoreTraces : k_okM M_X3_restoreTraces := by unfold k_okM; decide +kernel
def P_X3_isAsSaved : CB := [(0, [(.iconst 0, 1, []), (.istore_n 1, 1, []), (.nop, 0, [1])]),
  (2, [(.iload_n 1, 1, []), (.aload_n 0, 1, []), (.getfield 49, 3, [3, 10, 1]), (.arraylength, 1, []), (.if_icmp .ge 26, 3, [3]), (.aload_n 0, 1, []), (.getfield 49, 3, [3, 10, 1]), (.iload_n 1, 1, []), (.iaload, 1, []), (.aload_n 0, 1, []), (.getfield 55, 3, [3, 12, 1]), (.iload_n 1, 1, []), (.iaload, 1, []), (.if_icmp .eq 5, 3, [2]), (.iconst 0, 1, []), (.ireturn, 1, [])]),
  (28, [(.iinc 1 1, 3, []), (.goto (-29), 3, [1])]),
  (34, [(.iconst 1, 1, []), (.ireturn, 1, [])])]
abbrev M_X3_isAsSaved : Md := (59, 3, 2, (some .boolean), P_X3_isAsSaved)
theorem ok_X3_isAsSaved : k_okM M_X3_isAsSaved := by unfold k_okM; decide +kernel
def P_X4_figure : CB := [(0, [(.aload_n 0, 1, []), (.getfield 19, 3, [4, 2, 1]), (.iload_n 1, 1, []), (.iconst 1, 1, []), (.invokevirtual 23, 3, [77, 3, 6]), (.aload_n 0, 1, []), (.getfield 19, 3, [4, 2, 1]), (.iload_n 2, 1, []), (.invokevirtual 29, 3, [82, 2, 6]), (.iload_n 3, 1, []), (.ifCond .ne 45, 3, [3]), (.iconst 0, 1, []), (.istore 4, 2, []), (.iconst 0, 1, []), (.istore 5, 2, []), (.nop, 0, [1])]),
  (27, [(.iload 5, 2, []), (.aload_n 0, 1, []), (.getfield 9, 3, [4, 0, 1]), (.getfield 33, 3, [2, 4, 0]), (.if_icmp .ge 24, 3, [2]), (.iload 4, 2, []), (.aload_n 0, 1, []), (.getfield 19, 3, [4, 2, 1]), (.getfield 39, 3, [6, 5, 1]), (.iload 5, 2, []), (.iaload, 1, []), (.iadd, 1, []), (.istore 4, 2, []), (.iinc 5 1, 3, []), (.goto (-30), 3, [1])]),
  (60, [(.iload 4, 2, []), (.ireturn, 1, [])]),
  (63, [(.aload_n 0, 1, []), (.iload_n 2, 1, []), (.invokevirtual 43, 3, [62, 2, 4]), (.iload_n 3, 1, []), (.iconst 1, 1, []), (.if_icmp .ne 8, 3, [4]), (.aload_n 0, 1, []), (.getfield 46, 3, [4, 3, 0]), (.ireturn, 1, [])]),
  (78, [(.iload_n 3, 1, []), (.iconst 2, 1, []), (.if_icmp .ne 10, 3, [5]), (.aload_n 0, 1, []), (.getfield 49, 3, [4, 4, 0]), (.goto 8, 3, [6])]),
  (90, [(.aload_n 0, 1, []), (.iload_n 2, 1, []), (.invokevirtual 52, 3, [64, 2, 4]), (.nop, 0, [6])]),
  (95, [(.ireturn, 1, [])])]
abbrev M_X4_figure : Md := (61, 4, 6, (some .int), P_X4_figure)
theorem ok_X4_figure : k_okM M_X4_figure := by unfold k_okM; decide +kernel
end
section
/-! code as data (written by wip/whole/gencode.py) -/
def P_X4_partPlane : CB := [(0, [(.aload_n 0, 1, []), (.iconst 0, 1, []), (.putfield 46, 3, [4, 3, 0]), (.aload_n 0, 1, []), (.iconst 0, 1, []), (.putfield 49, 3, [4, 4, 0]), (.aload_n 0, 1, []), (.getfield 19, 3, [4, 2, 1]), (.getfield 56, 3, [6, 6, 1]), (.iconst 0, 1, []), (.invokestatic 59, 3, [323, 2]), (.iload_n 1, 1, []), (.aload_n 0, 1, []), (.getfield 9, 3, [4, 0, 1]), (.getfield 65, 3, [2, 3, 0]), (.imul, 1, []), (.istore_n 2, 1, []), (.nop, 0, [1])]),
  (31, [(.iload_n 2, 1, []), (.iload_n 1, 1, []), (.iconst 1, 1, []), (.iadd, 1, []), (.aload_n 0, 1, []), (.getfield 9, 3, [4, 0, 1]), (.getfield 65, 3, [2, 3, 0]), (.imul, 1, []), (.if_icmp .ge 74, 3, [4]), (.aload_n 0, 1, []), (.getfield 19, 3, [4, 2, 1]), (.getfield 39, 3, [6, 5, 1]), (.iload_n 2, 1, []), (.iaload, 1, []), (.ifCond .eq 56, 3, [3]), (.aload_n 0, 1, []), (.getfield 19, 3, [4, 2, 1]), (.getfield 56, 3, [6, 6, 1]), (.iload_n 2, 1, []), (.iaload, 1, []), (.ifCond .ne 44, 3, [3]), (.aload_n 0, 1, []), (.getfield 19, 3, [4, 2, 1]), (.iload_n 2, 1, []), (.iconst 4, 1, []), (.invokevirtual 68, 3, [85, 3, 6]), (.istore_n 3, 1, []), (.aload_n 0, 1, []), (.iload_n 3, 1, []), (.invokevirtual 72, 3, [63, 2, 4]), (.ifCond .eq 16, 3, [2]), (.aload_n 0, 1, []), (.dup, 1, []), (.getfield 46, 3, [4, 3, 0]), (.iconst 1, 1, []), (.iadd, 1, []), (.putfield 46, 3, [4, 3, 0]), (.goto 13, 3, [3])]),
  (101, [(.aload_n 0, 1, []), (.dup, 1, []), (.getfield 49, 3, [4, 4, 0]), (.iconst 1, 1, []), (.iadd, 1, []), (.putfield 49, 3, [4, 4, 0]), (.nop, 0, [3])]),
  (111, [(.iinc 2 1, 3, []), (.goto (-83), 3, [1])]),
  (117, [(.return_, 1, [])])]
abbrev M_X4_partPlane : Md := (62, 4, 4, none, P_X4_partPlane)
theorem ok_X4_partPlane : k_okM M_X4_partPlane := by unfold k_okM; decide +kernel
def P_X4_hasOwn : CB := [(0, [(.iconst 0, 1, []), (.istore_n 2, 1, []), (.nop, 0, [1])]),
  (2, [(.iload_n 2, 1, []), (.iload_n 1, 1, []), (.if_icmp .ge 31, 3, [3]), (.aload_n 0, 1, []), (.getfield 19, 3, [4, 2, 1]), (.getfield 76, 3, [6, 4, 1]), (.aload_n 0, 1, []), (.getfield 19, 3, [4, 2, 1]), (.getfield 79, 3, [6, 7, 1]), (.iload_n 2, 1, []), (.iaload, 1, []), (.iaload, 1, []), (.ifCond .eq 5, 3, [2]), (.iconst 1, 1, []), (.ireturn, 1, [])]),
  (29, [(.iinc 2 1, 3, []), (.goto (-30), 3, [1])]),
  (35, [(.iconst 0, 1, []), (.ireturn, 1, [])])]
abbrev M_X4_hasOwn : Md := (63, 4, 3, (some .boolean), P_X4_hasOwn)
theorem ok_X4_hasOwn : k_okM M_X4_hasOwn := by unfold k_okM; decide +kernel
def P_X4_necks : CB := [(0, [(.aload_n 0, 1, []), (.getfield 46, 3, [4, 3, 0]), (.istore_n 2, 1, []), (.iconst 0, 1, []), (.istore_n 3, 1, []), (.iload_n 1, 1, []), (.aload_n 0, 1, []), (.getfield 9, 3, [4, 0, 1]), (.getfield 65, 3, [2, 3, 0]), (.imul, 1, []), (.istore 4, 2, []), (.nop, 0, [1])]),
  (18, [(.iload 4, 2, []), (.iload_n 1, 1, []), (.iconst 1, 1, []), (.iadd, 1, []), (.aload_n 0, 1, []), (.getfield 9, 3, [4, 0, 1]), (.getfield 65, 3, [2, 3, 0]), (.imul, 1, []), (.if_icmp .ge 78, 3, [5]), (.aload_n 0, 1, []), (.getfield 19, 3, [4, 2, 1]), (.getfield 39, 3, [6, 5, 1]), (.iload 4, 2, []), (.iaload, 1, []), (.ifCond .eq 59, 3, [4]), (.aload_n 0, 1, []), (.getfield 19, 3, [4, 2, 1]), (.getfield 76, 3, [6, 4, 1]), (.iload 4, 2, []), (.iaload, 1, []), (.ifCond .ne 46, 3, [4]), (.aload_n 0, 1, []), (.getfield 19, 3, [4, 2, 1]), (.getfield 39, 3, [6, 5, 1]), (.iload 4, 2, []), (.iconst 0, 1, []), (.iastore, 1, []), (.aload_n 0, 1, []), (.iload_n 1, 1, []), (.invokevirtual 43, 3, [62, 2, 4]), (.aload_n 0, 1, []), (.getfield 19, 3, [4, 2, 1]), (.getfield 39, 3, [6, 5, 1]), (.iload 4, 2, []), (.iconst 1, 1, []), (.iastore, 1, []), (.iload_n 3, 1, []), (.aload_n 0, 1, []), (.getfield 46, 3, [4, 3, 0]), (.iload_n 2, 1, []), (.if_icmp .le 7, 3, [2]), (.iconst 1, 1, []), (.goto 4, 3, [3])]),
  (100, [(.iconst 0, 1, []), (.nop, 0, [3])]),
  (101, [(.iadd, 1, []), (.istore_n 3, 1, []), (.nop, 0, [4])]),
  (103, [(.iinc 4 1, 3, []), (.goto (-88), 3, [1])]),
  (109, [(.iload_n 3, 1, []), (.ireturn, 1, [])])]
abbrev M_X4_necks : Md := (64, 4, 5, (some .int), P_X4_necks)
theorem ok_X4_necks : k_okM M_X4_necks := by unfold k_okM; decide +kernel
def P_X4_spokesAt : CB := [(0, [(.aload_n 0, 1, []), (.getfield 19, 3, [4, 2, 1]), (.iload_n 1, 1, []), (.iconst 1, 1, []), (.invokevirtual 23, 3, [77, 3, 6]), (.aload_n 0, 1, []), (.getfield 19, 3, [4, 2, 1]), (.aload_n 0, 1, []), (.getfield 9, 3, [4, 0, 1]), (.getfield 82, 3, [2, 8, 1]), (.iload_n 2, 1, []), (.iaload, 1, []), (.invokevirtual 29, 3, [82, 2, 6]), (.iconst 0, 1, []), (.istore_n 3, 1, []), (.iconst 0, 1, []), (.istore 4, 2, []), (.nop, 0, [1])]),
  (30, [(.iload 4, 2, []), (.iconst 4, 1, []), (.if_icmp .ge 49, 3, [4]), (.aload_n 0, 1, []), (.getfield 9, 3, [4, 0, 1]), (.getfield 85, 3, [2, 5, 1]), (.iload_n 2, 1, []), (.bipush 6, 2, []), (.imul, 1, []), (.iload 4, 2, []), (.iadd, 1, []), (.iaload, 1, []), (.istore 5, 2, []), (.iload_n 3, 1, []), (.iload 5, 2, []), (.iconst (-1), 1, []), (.if_icmp .ne 7, 3, [2]), (.iconst 0, 1, []), (.goto 13, 3, [3])]),
  (64, [(.aload_n 0, 1, []), (.getfield 19, 3, [4, 2, 1]), (.getfield 39, 3, [6, 5, 1]), (.iload 5, 2, []), (.iaload, 1, []), (.nop, 0, [3])]),
  (74, [(.iadd, 1, []), (.istore_n 3, 1, []), (.iinc 4 1, 3, []), (.goto (-49), 3, [1])]),
  (82, [(.iload_n 3, 1, []), (.ireturn, 1, [])])]
abbrev M_X4_spokesAt : Md := (65, 4, 6, (some .int), P_X4_spokesAt)
theorem ok_X4_spokesAt : k_okM M_X4_spokesAt := by unfold k_okM; decide +kernel
def P_X4_withoutReturn : CB := [(0, [(.aload_n 0, 1, []), (.getfield 19, 3, [4, 2, 1]), (.iload_n 2, 1, []), (.iconst 1, 1, []), (.invokevirtual 23, 3, [77, 3, 6]), (.aload_n 0, 1, []), (.getfield 19, 3, [4, 2, 1]), (.iload_n 3, 1, []), (.invokevirtual 29, 3, [82, 2, 6]), (.iconst 0, 1, []), (.istore 4, 2, []), (.iload_n 3, 1, []), (.aload_n 0, 1, []), (.getfield 9, 3, [4, 0, 1]), (.getfield 65, 3, [2, 3, 0]), (.imul, 1, []), (.istore 5, 2, []), (.nop, 0, [1])]),
  (31, [(.iload 5, 2, []), (.iload_n 3, 1, []), (.iconst 1, 1, []), (.iadd, 1, []), (.aload_n 0, 1, []), (.getfield 9, 3, [4, 0, 1]), (.getfield 65, 3, [2, 3, 0]), (.imul, 1, []), (.if_icmp .ge 80, 3, [5]), (.iconst 4, 1, []), (.istore 6, 2, []), (.nop, 0, [2])]),
  (50, [(.iload 6, 2, []), (.bipush 6, 2, []), (.if_icmp .ge 64, 3, [4]), (.aload_n 0, 1, []), (.getfield 9, 3, [4, 0, 1]), (.getfield 85, 3, [2, 5, 1]), (.iload 5, 2, []), (.bipush 6, 2, []), (.imul, 1, []), (.iload 6, 2, []), (.iadd, 1, []), (.iaload, 1, []), (.istore 7, 2, []), (.iload 7, 2, []), (.iconst (-1), 1, []), (.if_icmp .eq 34, 3, [3]), (.aload_n 0, 1, []), (.getfield 19, 3, [4, 2, 1]), (.getfield 39, 3, [6, 5, 1]), (.iload 5, 2, []), (.iaload, 1, []), (.ifCond .ne 21, 3, [3]), (.iload 4, 2, []), (.aload_n 0, 1, []), (.getfield 15, 3, [4, 1, 1]), (.iload 7, 2, []), (.invokevirtual 88, 3, [52, 2, 3]), (.iload_n 1, 1, []), (.ishr, 1, []), (.iconst 1, 1, []), (.iand, 1, []), (.iadd, 1, []), (.istore 4, 2, []), (.nop, 0, [3])]),
  (112, [(.iinc 6 1, 3, []), (.goto (-65), 3, [2])]),
  (118, [(.iinc 5 1, 3, []), (.goto (-90), 3, [1])]),
  (124, [(.iload 4, 2, []), (.ireturn, 1, [])])]
abbrev M_X4_withoutReturn : Md := (66, 4, 8, (some .int), P_X4_withoutReturn)
theorem ok_X4_withoutReturn : k_okM M_X4_withoutReturn := by unfold k_okM; decide +kernel
def P_X5_layInOrder : CB := [(0, [(.aload_n 0, 1, []), (.getfield 15, 3, [5, 1, 1]), (.invokevirtual 40, 3, [45, 1, 3]), (.iconst 0, 1, []), (.istore_n 1, 1, []), (.iconst 0, 1, []), (.istore_n 2, 1, []), (.nop, 0, [1])]),
  (11, [(.iload_n 2, 1, []), (.bipush 99, 2, []), (.if_icmp .gt 71, 3, [5]), (.iconst 0, 1, []), (.istore_n 3, 1, []), (.nop, 0, [2])]),
  (19, [(.iload_n 3, 1, []), (.aload_n 0, 1, []), (.getfield 15, 3, [5, 1, 1]), (.getfield 45, 3, [3, 14, 0]), (.if_icmp .ge 52, 3, [4]), (.aload_n 0, 1, []), (.getfield 15, 3, [5, 1, 1]), (.getfield 48, 3, [3, 3, 1]), (.iload_n 3, 1, []), (.iaload, 1, []), (.iload_n 2, 1, []), (.if_icmp .ne 33, 3, [3]), (.aload_n 0, 1, []), (.getfield 15, 3, [5, 1, 1]), (.getfield 51, 3, [3, 4, 1]), (.iload_n 3, 1, []), (.iaload, 1, []), (.ifCond .le 21, 3, [3]), (.aload_n 0, 1, []), (.getfield 23, 3, [5, 3, 1]), (.iload_n 3, 1, []), (.invokevirtual 54, 3, [89, 2, 7]), (.iconst (-1), 1, []), (.if_icmp .ne 9, 3, [3]), (.iload_n 1, 1, []), (.iconst 1, 1, []), (.iload_n 3, 1, []), (.ishl, 1, []), (.ior, 1, []), (.istore_n 1, 1, []), (.nop, 0, [3])]),
  (73, [(.iinc 3 1, 3, []), (.goto (-57), 3, [2])]),
  (79, [(.iinc 2 1, 3, []), (.goto (-71), 3, [1])]),
  (85, [(.iload_n 1, 1, []), (.ireturn, 1, [])])]
abbrev M_X5_layInOrder : Md := (68, 5, 4, (some .int), P_X5_layInOrder)
theorem ok_X5_layInOrder : k_okM M_X5_layInOrder := by unfold k_okM; decide +kernel
def P_X5_pressAll : CB := [(0, [(.aload_n 0, 1, []), (.getfield 15, 3, [5, 1, 1]), (.invokevirtual 40, 3, [45, 1, 3]), (.aload_n 0, 1, []), (.getfield 33, 3, [5, 4, 1]), (.iconst 0, 1, []), (.invokestatic 60, 3, [323, 2]), (.iconst 1, 1, []), (.istore_n 3, 1, []), (.nop, 0, [1])]),
  (17, [(.iload_n 3, 1, []), (.iload_n 1, 1, []), (.if_icmp .gt 28, 3, [4]), (.aload_n 0, 1, []), (.iload_n 2, 1, []), (.invokevirtual 66, 3, [70, 2, 5]), (.ifCond .ne 5, 3, [2]), (.iconst (-1), 1, []), (.ireturn, 1, [])]),
  (32, [(.aload_n 0, 1, []), (.invokevirtual 70, 3, [71, 1, 5]), (.ifCond .ne 5, 3, [3]), (.iload_n 3, 1, []), (.ireturn, 1, [])]),
  (41, [(.iinc 3 1, 3, []), (.goto (-27), 3, [1])]),
  (47, [(.iconst (-1), 1, []), (.ireturn, 1, [])])]
abbrev M_X5_pressAll : Md := (69, 5, 4, (some .int), P_X5_pressAll)
theorem ok_X5_pressAll : k_okM M_X5_pressAll := by unfold k_okM; decide +kernel
def P_X5_layTurn : CB := [(0, [(.iconst 1, 1, []), (.istore_n 2, 1, []), (.iconst 0, 1, []), (.istore_n 3, 1, []), (.nop, 0, [1])]),
  (4, [(.iload_n 3, 1, []), (.aload_n 0, 1, []), (.getfield 15, 3, [5, 1, 1]), (.getfield 45, 3, [3, 14, 0]), (.if_icmp .ge 125, 3, [7]), (.iload_n 2, 1, []), (.ifCond .eq 121, 3, [7]), (.aload_n 0, 1, []), (.getfield 15, 3, [5, 1, 1]), (.getfield 51, 3, [3, 4, 1]), (.iload_n 3, 1, []), (.iaload, 1, []), (.ifCond .le 103, 3, [6]), (.aload_n 0, 1, []), (.getfield 15, 3, [5, 1, 1]), (.iload_n 3, 1, []), (.invokevirtual 74, 3, [44, 2, 3]), (.aload_n 0, 1, []), (.getfield 19, 3, [5, 2, 1]), (.iload_n 3, 1, []), (.iconst 0, 1, []), (.invokevirtual 78, 3, [77, 3, 6]), (.aload_n 0, 1, []), (.getfield 19, 3, [5, 2, 1]), (.sipush 255, 3, []), (.invokevirtual 84, 3, [81, 2, 6]), (.iconst 0, 1, []), (.istore 4, 2, []), (.nop, 0, [2])]),
  (61, [(.iload 4, 2, []), (.aload_n 0, 1, []), (.getfield 9, 3, [5, 0, 1]), (.getfield 27, 3, [2, 4, 0]), (.if_icmp .ge 42, 3, [3]), (.aload_n 0, 1, []), (.getfield 23, 3, [5, 3, 1]), (.getfield 87, 3, [7, 3, 1]), (.iload 4, 2, []), (.iload_n 1, 1, []), (.aload_n 0, 1, []), (.getfield 19, 3, [5, 2, 1]), (.getfield 90, 3, [6, 3, 1]), (.iload 4, 2, []), (.iaload, 1, []), (.invokestatic 93, 3, [316, 1]), (.imul, 1, []), (.aload_n 0, 1, []), (.getfield 33, 3, [5, 4, 1]), (.iload 4, 2, []), (.iaload, 1, []), (.iadd, 1, []), (.iastore, 1, []), (.iinc 4 1, 3, []), (.goto (-48), 3, [2])]),
  (112, [(.aload_n 0, 1, []), (.getfield 23, 3, [5, 3, 1]), (.iload_n 3, 1, []), (.iconst 1, 1, []), (.invokevirtual 98, 3, [91, 3, 7]), (.iconst (-1), 1, []), (.if_icmp .eq 7, 3, [4]), (.iconst 1, 1, []), (.goto 4, 3, [5])]),
  (129, [(.iconst 0, 1, []), (.nop, 0, [5])]),
  (130, [(.istore_n 2, 1, []), (.nop, 0, [6])]),
  (131, [(.iinc 3 1, 3, []), (.goto (-130), 3, [1])]),
  (137, [(.aload_n 0, 1, []), (.getfield 23, 3, [5, 3, 1]), (.getfield 87, 3, [7, 3, 1]), (.iconst 0, 1, []), (.invokestatic 60, 3, [323, 2]), (.iload_n 2, 1, []), (.ireturn, 1, [])])]
abbrev M_X5_layTurn : Md := (70, 5, 5, (some .boolean), P_X5_layTurn)
theorem ok_X5_layTurn : k_okM M_X5_layTurn := by unfold k_okM; decide +kernel
def P_X5_warmCrowded : CB := [(0, [(.aload_n 0, 1, []), (.getfield 37, 3, [5, 5, 1]), (.iconst 0, 1, []), (.invokestatic 60, 3, [323, 2]), (.iconst 0, 1, []), (.istore_n 1, 1, []), (.iconst 0, 1, []), (.istore_n 2, 1, []), (.nop, 0, [1])]),
  (12, [(.iload_n 2, 1, []), (.aload_n 0, 1, []), (.getfield 15, 3, [5, 1, 1]), (.getfield 45, 3, [3, 14, 0]), (.if_icmp .ge 74, 3, [5]), (.aload_n 0, 1, []), (.getfield 19, 3, [5, 2, 1]), (.iload_n 2, 1, []), (.iconst 0, 1, []), (.invokevirtual 78, 3, [77, 3, 6]), (.iconst 0, 1, []), (.istore_n 3, 1, []), (.nop, 0, [2])]),
  (34, [(.iload_n 3, 1, []), (.aload_n 0, 1, []), (.getfield 9, 3, [5, 0, 1]), (.getfield 27, 3, [2, 4, 0]), (.if_icmp .ge 46, 3, [4]), (.aload_n 0, 1, []), (.getfield 15, 3, [5, 1, 1]), (.getfield 102, 3, [3, 8, 1]), (.iload_n 3, 1, []), (.iaload, 1, []), (.iload_n 2, 1, []), (.ishr, 1, []), (.iconst 1, 1, []), (.iand, 1, []), (.ifCond .eq 24, 3, [3]), (.aload_n 0, 1, []), (.getfield 19, 3, [5, 2, 1]), (.getfield 90, 3, [6, 3, 1]), (.iload_n 3, 1, []), (.iaload, 1, []), (.ifCond .eq 12, 3, [3]), (.aload_n 0, 1, []), (.getfield 37, 3, [5, 5, 1]), (.iload_n 3, 1, []), (.iconst 1, 1, []), (.iastore, 1, []), (.iconst 1, 1, []), (.istore_n 1, 1, []), (.nop, 0, [3])]),
  (82, [(.iinc 3 1, 3, []), (.goto (-51), 3, [2])]),
  (88, [(.iinc 2 1, 3, []), (.goto (-79), 3, [1])]),
  (94, [(.iconst 0, 1, []), (.istore_n 2, 1, []), (.nop, 0, [6])]),
  (96, [(.iload_n 2, 1, []), (.aload_n 0, 1, []), (.getfield 9, 3, [5, 0, 1]), (.getfield 27, 3, [2, 4, 0]), (.if_icmp .ge 24, 3, [7]), (.aload_n 0, 1, []), (.getfield 33, 3, [5, 4, 1]), (.iload_n 2, 1, []), (.dup2, 1, []), (.iaload, 1, []), (.aload_n 0, 1, []), (.getfield 37, 3, [5, 5, 1]), (.iload_n 2, 1, []), (.iaload, 1, []), (.iadd, 1, []), (.iastore, 1, []), (.iinc 2 1, 3, []), (.goto (-29), 3, [6])]),
  (128, [(.iload_n 1, 1, []), (.ireturn, 1, [])])]
abbrev M_X5_warmCrowded : Md := (71, 5, 4, (some .boolean), P_X5_warmCrowded)
theorem ok_X5_warmCrowded : k_okM M_X5_warmCrowded := by unfold k_okM; decide +kernel
def P_X5_orderFigure : CB := [(0, [(.aload_n 0, 1, []), (.invokevirtual 105, 3, [68, 1, 5]), (.istore_n 2, 1, []), (.iload_n 1, 1, []), (.ifCond .ne 15, 3, [1]), (.aload_n 0, 1, []), (.invokevirtual 109, 3, [74, 1, 5]), (.iload_n 2, 1, []), (.invokestatic 93, 3, [316, 1]), (.isub, 1, []), (.goto 17, 3, [4])]),
  (21, [(.aload_n 0, 1, []), (.iload_n 1, 1, []), (.iconst 1, 1, []), (.if_icmp .ne 7, 3, [2]), (.iconst 1, 1, []), (.goto 4, 3, [3])]),
  (31, [(.iconst 0, 1, []), (.nop, 0, [3])]),
  (32, [(.invokevirtual 112, 3, [75, 2, 5]), (.nop, 0, [4])]),
  (35, [(.ireturn, 1, [])])]
abbrev M_X5_orderFigure : Md := (72, 5, 3, (some .int), P_X5_orderFigure)
theorem ok_X5_orderFigure : k_okM M_X5_orderFigure := by unfold k_okM; decide +kernel
def P_X5_pressFigure : CB := [(0, [(.aload_n 0, 1, []), (.iload_n 1, 1, []), (.iload_n 2, 1, []), (.invokevirtual 116, 3, [69, 3, 5]), (.iconst (-1), 1, []), (.if_icmp .eq 7, 3, [1]), (.iconst 1, 1, []), (.goto 4, 3, [2])]),
  (14, [(.iconst 0, 1, []), (.nop, 0, [2])]),
  (15, [(.istore 4, 2, []), (.iload_n 3, 1, []), (.iconst 3, 1, []), (.if_icmp .ne 14, 3, [5]), (.iload 4, 2, []), (.ifCond .eq 7, 3, [3]), (.iconst 1, 1, []), (.goto 4, 3, [4])]),
  (31, [(.iconst 0, 1, []), (.nop, 0, [4])]),
  (32, [(.ireturn, 1, [])]),
  (33, [(.iload 4, 2, []), (.ifCond .eq 20, 3, [8]), (.aload_n 0, 1, []), (.iload_n 3, 1, []), (.iconst 4, 1, []), (.if_icmp .ne 7, 3, [6]), (.iconst 1, 1, []), (.goto 4, 3, [7])]),
  (48, [(.iconst 0, 1, []), (.nop, 0, [7])]),
  (49, [(.invokevirtual 112, 3, [75, 2, 5]), (.goto 4, 3, [9])]),
  (55, [(.iconst (-1), 1, []), (.nop, 0, [9])]),
  (56, [(.ireturn, 1, [])])]
abbrev M_X5_pressFigure : Md := (73, 5, 5, (some .int), P_X5_pressFigure)
theorem ok_X5_pressFigure : k_okM M_X5_pressFigure := by unfold k_okM; decide +kernel
def P_X5_withPins : CB := [(0, [(.iconst 0, 1, []), (.istore_n 1, 1, []), (.iconst 0, 1, []), (.istore_n 2, 1, []), (.nop, 0, [1])]),
  (4, [(.iload_n 2, 1, []), (.aload_n 0, 1, []), (.getfield 15, 3, [5, 1, 1]), (.getfield 45, 3, [3, 14, 0]), (.if_icmp .ge 24, 3, [3]), (.aload_n 0, 1, []), (.getfield 15, 3, [5, 1, 1]), (.getfield 51, 3, [3, 4, 1]), (.iload_n 2, 1, []), (.iaload, 1, []), (.ifCond .le 6, 3, [2]), (.iinc 1 1, 3, []), (.nop, 0, [2])]),
  (30, [(.iinc 2 1, 3, []), (.goto (-29), 3, [1])]),
  (36, [(.iload_n 1, 1, []), (.ireturn, 1, [])])]
abbrev M_X5_withPins : Md := (74, 5, 3, (some .int), P_X5_withPins)
theorem ok_X5_withPins : k_okM M_X5_withPins := by unfold k_okM; decide +kernel
def P_X5_wholeFigure : CB := [(0, [(.iconst 0, 1, []), (.istore_n 2, 1, []), (.iconst 0, 1, []), (.istore_n 3, 1, []), (.nop, 0, [1])]),
  (4, [(.iload_n 3, 1, []), (.aload_n 0, 1, []), (.getfield 15, 3, [5, 1, 1]), (.getfield 45, 3, [3, 14, 0]), (.if_icmp .ge 35, 3, [4]), (.iload_n 2, 1, []), (.iload_n 1, 1, []), (.ifCond .eq 14, 3, [2]), (.aload_n 0, 1, []), (.getfield 15, 3, [5, 1, 1]), (.iload_n 3, 1, []), (.invokevirtual 120, 3, [54, 2, 3]), (.goto 11, 3, [3])]),
  (31, [(.aload_n 0, 1, []), (.getfield 15, 3, [5, 1, 1]), (.iload_n 3, 1, []), (.invokevirtual 123, 3, [55, 2, 3]), (.nop, 0, [3])]),
  (39, [(.iadd, 1, []), (.istore_n 2, 1, []), (.iinc 3 1, 3, []), (.goto (-40), 3, [1])]),
  (47, [(.iload_n 2, 1, []), (.ireturn, 1, [])])]
abbrev M_X5_wholeFigure : Md := (75, 5, 4, (some .int), P_X5_wholeFigure)
theorem ok_X5_wholeFigure : k_okM M_X5_wholeFigure := by unfold k_okM; decide +kernel
def P_X6_look : CB := [(0, [(.aload_n 0, 1, []), (.iload_n 1, 1, []), (.putfield 47, 3, [6, 9, 0]), (.aload_n 0, 1, []), (.getfield 29, 3, [6, 2, 1]), (.iconst 0, 1, []), (.invokestatic 50, 3, [323, 2]), (.aload_n 0, 1, []), (.getfield 32, 3, [6, 3, 1]), (.iconst 0, 1, []), (.invokestatic 50, 3, [323, 2]), (.aload_n 0, 1, []), (.iload_n 1, 1, []), (.invokevirtual 56, 3, [78, 2, 6]), (.iconst 1, 1, []), (.iload_n 1, 1, []), (.ishl, 1, []), (.iconst (-1), 1, []), (.ixor, 1, []), (.istore_n 3, 1, []), (.iconst 0, 1, []), (.istore 4, 2, []), (.nop, 0, [1])]),
  (35, [(.iload 4, 2, []), (.aload_n 0, 1, []), (.getfield 15, 3, [6, 0, 1]), (.getfield 23, 3, [2, 4, 0]), (.if_icmp .ge 96, 3, [5]), (.iload_n 2, 1, []), (.ifCond .eq 15, 3, [2]), (.aload_n 0, 1, []), (.getfield 19, 3, [6, 1, 1]), (.iload 4, 2, []), (.invokevirtual 60, 3, [52, 2, 3]), (.goto 13, 3, [3])]),
  (63, [(.aload_n 0, 1, []), (.getfield 19, 3, [6, 1, 1]), (.getfield 66, 3, [3, 7, 1]), (.iload 4, 2, []), (.iaload, 1, []), (.nop, 0, [3])]),
  (73, [(.istore 5, 2, []), (.aload_n 0, 1, []), (.getfield 35, 3, [6, 4, 1]), (.iload 4, 2, []), (.iload 5, 2, []), (.iload_n 1, 1, []), (.ishr, 1, []), (.iconst 1, 1, []), (.iand, 1, []), (.iastore, 1, []), (.aload_n 0, 1, []), (.getfield 19, 3, [6, 1, 1]), (.getfield 66, 3, [3, 7, 1]), (.iload 4, 2, []), (.iaload, 1, []), (.iload_n 3, 1, []), (.iand, 1, []), (.istore 6, 2, []), (.aload_n 0, 1, []), (.getfield 19, 3, [6, 1, 1]), (.getfield 69, 3, [3, 8, 1]), (.iload 4, 2, []), (.iaload, 1, []), (.iload_n 3, 1, []), (.iand, 1, []), (.istore 7, 2, []), (.iload 6, 2, []), (.iload 7, 2, []), (.ior, 1, []), (.ifCond .eq 13, 3, [4]), (.aload_n 0, 1, []), (.iload 4, 2, []), (.iload 6, 2, []), (.iload 7, 2, []), (.invokevirtual 72, 3, [79, 4, 6]), (.nop, 0, [4])]),
  (134, [(.iinc 4 1, 3, []), (.goto (-102), 3, [1])]),
  (140, [(.return_, 1, [])])]
abbrev M_X6_look : Md := (77, 6, 8, none, P_X6_look)
theorem ok_X6_look : k_okM M_X6_look := by unfold k_okM; decide +kernel
end
section
/-! code as data (written by wip/whole/gencode.py) -/
def P_X6_partOthers : CB := [(0, [(.aload_n 0, 1, []), (.getfield 9, 3, [6, 8, 1]), (.iconst 0, 1, []), (.invokestatic 50, 3, [323, 2]), (.aload_n 0, 1, []), (.getfield 19, 3, [6, 1, 1]), (.iload_n 1, 1, []), (.iconst 3, 1, []), (.invokevirtual 76, 3, [34, 3, 3]), (.istore_n 2, 1, []), (.iconst 0, 1, []), (.istore_n 3, 1, []), (.nop, 0, [1])]),
  (20, [(.iload_n 3, 1, []), (.aload_n 0, 1, []), (.getfield 19, 3, [6, 1, 1]), (.getfield 80, 3, [3, 14, 0]), (.if_icmp .ge 38, 3, [3]), (.iload_n 3, 1, []), (.iload_n 1, 1, []), (.if_icmp .eq 27, 3, [2]), (.aload_n 0, 1, []), (.getfield 9, 3, [6, 8, 1]), (.iload_n 2, 1, []), (.aload_n 0, 1, []), (.getfield 19, 3, [6, 1, 1]), (.iload_n 3, 1, []), (.iconst 3, 1, []), (.invokevirtual 76, 3, [34, 3, 3]), (.invokestatic 83, 3, [0]), (.dup2, 1, []), (.iaload, 1, []), (.iconst 1, 1, []), (.iload_n 3, 1, []), (.ishl, 1, []), (.ior, 1, []), (.iastore, 1, []), (.nop, 0, [2])]),
  (60, [(.iinc 3 1, 3, []), (.goto (-43), 3, [1])]),
  (66, [(.return_, 1, [])])]
abbrev M_X6_partOthers : Md := (78, 6, 4, none, P_X6_partOthers)
theorem ok_X6_partOthers : k_okM M_X6_partOthers := by unfold k_okM; decide +kernel
def P_X6_spreadAll : CB := [(0, [(.iconst 0, 1, []), (.istore 4, 2, []), (.nop, 0, [1])]),
  (3, [(.iload 4, 2, []), (.aload_n 0, 1, []), (.getfield 9, 3, [6, 8, 1]), (.arraylength, 1, []), (.if_icmp .ge 48, 3, [3]), (.iload_n 2, 1, []), (.iload_n 3, 1, []), (.ior, 1, []), (.aload_n 0, 1, []), (.getfield 9, 3, [6, 8, 1]), (.iload 4, 2, []), (.iaload, 1, []), (.iand, 1, []), (.ifCond .eq 28, 3, [2]), (.aload_n 0, 1, []), (.iload_n 1, 1, []), (.iload 4, 2, []), (.iload_n 2, 1, []), (.aload_n 0, 1, []), (.getfield 9, 3, [6, 8, 1]), (.iload 4, 2, []), (.iaload, 1, []), (.iand, 1, []), (.iload_n 3, 1, []), (.aload_n 0, 1, []), (.getfield 9, 3, [6, 8, 1]), (.iload 4, 2, []), (.iaload, 1, []), (.iand, 1, []), (.invokevirtual 88, 3, [80, 5, 6]), (.nop, 0, [2])]),
  (52, [(.iinc 4 1, 3, []), (.goto (-52), 3, [1])]),
  (58, [(.return_, 1, [])])]
abbrev M_X6_spreadAll : Md := (79, 6, 5, none, P_X6_spreadAll)
theorem ok_X6_spreadAll : k_okM M_X6_spreadAll := by unfold k_okM; decide +kernel
def P_X6_spread : CB := [(0, [(.iconst 0, 1, []), (.aload_n 0, 1, []), (.getfield 15, 3, [6, 0, 1]), (.getfield 92, 3, [2, 6, 1]), (.iload_n 1, 1, []), (.iaload, 1, []), (.iload_n 2, 1, []), (.isub, 1, []), (.invokestatic 83, 3, [0]), (.istore 5, 2, []), (.aload_n 0, 1, []), (.getfield 15, 3, [6, 0, 1]), (.getfield 95, 3, [2, 0, 0]), (.iconst 1, 1, []), (.isub, 1, []), (.aload_n 0, 1, []), (.getfield 15, 3, [6, 0, 1]), (.getfield 92, 3, [2, 6, 1]), (.iload_n 1, 1, []), (.iaload, 1, []), (.iload_n 2, 1, []), (.iadd, 1, []), (.invokestatic 98, 3, [1]), (.istore 6, 2, []), (.aload_n 0, 1, []), (.getfield 15, 3, [6, 0, 1]), (.getfield 101, 3, [2, 1, 0]), (.iconst 1, 1, []), (.isub, 1, []), (.aload_n 0, 1, []), (.getfield 15, 3, [6, 0, 1]), (.getfield 104, 3, [2, 7, 1]), (.iload_n 1, 1, []), (.iaload, 1, []), (.iload_n 2, 1, []), (.iadd, 1, []), (.invokestatic 98, 3, [1]), (.istore 7, 2, []), (.iconst 0, 1, []), (.aload_n 0, 1, []), (.getfield 15, 3, [6, 0, 1]), (.getfield 104, 3, [2, 7, 1]), (.iload_n 1, 1, []), (.iaload, 1, []), (.iload_n 2, 1, []), (.isub, 1, []), (.invokestatic 83, 3, [0]), (.istore 8, 2, []), (.nop, 0, [1])]),
  (84, [(.iload 8, 2, []), (.iload 7, 2, []), (.if_icmp .gt 85, 3, [4]), (.aload_n 0, 1, []), (.getfield 15, 3, [6, 0, 1]), (.getfield 107, 3, [2, 8, 1]), (.iload_n 1, 1, []), (.iaload, 1, []), (.aload_n 0, 1, []), (.getfield 15, 3, [6, 0, 1]), (.getfield 110, 3, [2, 3, 0]), (.imul, 1, []), (.iload 8, 2, []), (.aload_n 0, 1, []), (.getfield 15, 3, [6, 0, 1]), (.getfield 95, 3, [2, 0, 0]), (.imul, 1, []), (.iadd, 1, []), (.istore 9, 2, []), (.iload 5, 2, []), (.istore 10, 2, []), (.nop, 0, [2])]),
  (125, [(.iload 10, 2, []), (.iload 6, 2, []), (.if_icmp .gt 38, 3, [3]), (.aload_n 0, 1, []), (.getfield 29, 3, [6, 2, 1]), (.iload 9, 2, []), (.iload 10, 2, []), (.iadd, 1, []), (.dup2, 1, []), (.iaload, 1, []), (.iload_n 3, 1, []), (.ior, 1, []), (.iastore, 1, []), (.aload_n 0, 1, []), (.getfield 32, 3, [6, 3, 1]), (.iload 9, 2, []), (.iload 10, 2, []), (.iadd, 1, []), (.dup2, 1, []), (.iaload, 1, []), (.iload 4, 2, []), (.ior, 1, []), (.iastore, 1, []), (.iinc 10 1, 3, []), (.goto (-39), 3, [2])]),
  (167, [(.iinc 8 1, 3, []), (.goto (-86), 3, [1])]),
  (173, [(.return_, 1, [])])]
abbrev M_X6_spread : Md := (80, 6, 11, none, P_X6_spread)
theorem ok_X6_spread : k_okM M_X6_spread := by unfold k_okM; decide +kernel
def P_X6_mark : CB := [(0, [(.aload_n 0, 1, []), (.getfield 19, 3, [6, 1, 1]), (.aload_n 0, 1, []), (.getfield 47, 3, [6, 9, 0]), (.iconst 4, 1, []), (.invokevirtual 76, 3, [34, 3, 3]), (.istore_n 2, 1, []), (.iconst 0, 1, []), (.istore_n 3, 1, []), (.nop, 0, [1])]),
  (15, [(.iload_n 3, 1, []), (.aload_n 0, 1, []), (.getfield 15, 3, [6, 0, 1]), (.getfield 23, 3, [2, 4, 0]), (.if_icmp .ge 66, 3, [7]), (.iload_n 2, 1, []), (.aload_n 0, 1, []), (.getfield 15, 3, [6, 0, 1]), (.getfield 107, 3, [2, 8, 1]), (.iload_n 3, 1, []), (.iaload, 1, []), (.ishr, 1, []), (.iconst 1, 1, []), (.iand, 1, []), (.ifCond .eq 16, 3, [2]), (.aload_n 0, 1, []), (.iload_n 3, 1, []), (.iload_n 1, 1, []), (.invokevirtual 113, 3, [83, 3, 6]), (.ifCond .eq 7, 3, [2]), (.iconst 1, 1, []), (.goto 4, 3, [3])]),
  (55, [(.iconst 0, 1, []), (.nop, 0, [3])]),
  (56, [(.istore 4, 2, []), (.aload_n 0, 1, []), (.getfield 38, 3, [6, 5, 1]), (.iload_n 3, 1, []), (.aload_n 0, 1, []), (.getfield 35, 3, [6, 4, 1]), (.iload_n 3, 1, []), (.iaload, 1, []), (.ifCond .ne 8, 3, [4]), (.iload 4, 2, []), (.ifCond .eq 7, 3, [5]), (.nop, 0, [4])]),
  (77, [(.iconst 1, 1, []), (.goto 4, 3, [6])]),
  (81, [(.iconst 0, 1, []), (.nop, 0, [6])]),
  (82, [(.iastore, 1, []), (.iinc 3 1, 3, []), (.goto (-71), 3, [1])]),
  (89, [(.return_, 1, [])])]
abbrev M_X6_mark : Md := (81, 6, 5, none, P_X6_mark)
theorem ok_X6_mark : k_okM M_X6_mark := by unfold k_okM; decide +kernel
def P_X6_markPlane : CB := [(0, [(.iconst 0, 1, []), (.istore_n 2, 1, []), (.nop, 0, [1])]),
  (2, [(.iload_n 2, 1, []), (.aload_n 0, 1, []), (.getfield 15, 3, [6, 0, 1]), (.getfield 23, 3, [2, 4, 0]), (.if_icmp .ge 61, 3, [7]), (.aload_n 0, 1, []), (.getfield 35, 3, [6, 4, 1]), (.iload_n 2, 1, []), (.iaload, 1, []), (.ifCond .ne 12, 3, [2]), (.aload_n 0, 1, []), (.iload_n 2, 1, []), (.iconst 0, 1, []), (.invokevirtual 113, 3, [83, 3, 6]), (.ifCond .eq 7, 3, [3]), (.nop, 0, [2])]),
  (31, [(.iconst 1, 1, []), (.goto 4, 3, [4])]),
  (35, [(.iconst 0, 1, []), (.nop, 0, [4])]),
  (36, [(.istore_n 3, 1, []), (.aload_n 0, 1, []), (.getfield 38, 3, [6, 5, 1]), (.iload_n 2, 1, []), (.iload_n 3, 1, []), (.ifCond .eq 20, 3, [5]), (.aload_n 0, 1, []), (.getfield 15, 3, [6, 0, 1]), (.getfield 107, 3, [2, 8, 1]), (.iload_n 2, 1, []), (.iaload, 1, []), (.iload_n 1, 1, []), (.if_icmp .ne 7, 3, [5]), (.iconst 1, 1, []), (.goto 4, 3, [6])]),
  (63, [(.iconst 0, 1, []), (.nop, 0, [6])]),
  (64, [(.iastore, 1, []), (.iinc 2 1, 3, []), (.goto (-66), 3, [1])]),
  (71, [(.return_, 1, [])])]
abbrev M_X6_markPlane : Md := (82, 6, 4, none, P_X6_markPlane)
theorem ok_X6_markPlane : k_okM M_X6_markPlane := by unfold k_okM; decide +kernel
def P_X6_isClear : CB := [(0, [(.aload_n 0, 1, []), (.getfield 19, 3, [6, 1, 1]), (.getfield 117, 3, [3, 6, 1]), (.iload_n 1, 1, []), (.iaload, 1, []), (.ifCond .ne 29, 3, [1]), (.aload_n 0, 1, []), (.getfield 29, 3, [6, 2, 1]), (.iload_n 1, 1, []), (.iaload, 1, []), (.ifCond .ne 20, 3, [1]), (.aload_n 0, 1, []), (.getfield 32, 3, [6, 3, 1]), (.iload_n 1, 1, []), (.iaload, 1, []), (.iload_n 2, 1, []), (.iconst (-1), 1, []), (.ixor, 1, []), (.iand, 1, []), (.ifCond .ne 7, 3, [1]), (.iconst 1, 1, []), (.goto 4, 3, [2])]),
  (38, [(.iconst 0, 1, []), (.nop, 0, [2])]),
  (39, [(.ireturn, 1, [])])]
abbrev M_X6_isClear : Md := (83, 6, 3, (some .boolean), P_X6_isClear)
theorem ok_X6_isClear : k_okM M_X6_isClear := by unfold k_okM; decide +kernel
def P_X6_flood : CB := [(0, [(.aload_n 0, 1, []), (.getfield 41, 3, [6, 6, 1]), (.iconst 0, 1, []), (.invokestatic 50, 3, [323, 2]), (.aload_n 0, 1, []), (.iload_n 1, 1, []), (.iload_n 2, 1, []), (.invokevirtual 120, 3, [85, 3, 6]), (.ireturn, 1, [])])]
abbrev M_X6_flood : Md := (84, 6, 3, (some .int), P_X6_flood)
theorem ok_X6_flood : k_okM M_X6_flood := by unfold k_okM; decide +kernel
def P_X6_floodMore : CB := [(0, [(.aload_n 0, 1, []), (.getfield 41, 3, [6, 6, 1]), (.iload_n 1, 1, []), (.iconst 1, 1, []), (.iastore, 1, []), (.aload_n 0, 1, []), (.getfield 44, 3, [6, 7, 1]), (.iconst 0, 1, []), (.iload_n 1, 1, []), (.iastore, 1, []), (.iconst 1, 1, []), (.istore_n 3, 1, []), (.iconst 0, 1, []), (.istore 4, 2, []), (.nop, 0, [1])]),
  (19, [(.iload 4, 2, []), (.iload_n 3, 1, []), (.if_icmp .ge 104, 3, [5]), (.iload 4, 2, []), (.aload_n 0, 1, []), (.getfield 15, 3, [6, 0, 1]), (.getfield 23, 3, [2, 4, 0]), (.if_icmp .ge 92, 3, [5]), (.iconst 0, 1, []), (.istore 5, 2, []), (.nop, 0, [2])]),
  (40, [(.iload 5, 2, []), (.iload_n 2, 1, []), (.if_icmp .ge 77, 3, [4]), (.aload_n 0, 1, []), (.getfield 15, 3, [6, 0, 1]), (.getfield 123, 3, [2, 5, 1]), (.aload_n 0, 1, []), (.getfield 44, 3, [6, 7, 1]), (.iload 4, 2, []), (.iaload, 1, []), (.bipush 6, 2, []), (.imul, 1, []), (.iload 5, 2, []), (.iadd, 1, []), (.iaload, 1, []), (.istore 6, 2, []), (.iload 6, 2, []), (.iconst (-1), 1, []), (.if_icmp .eq 42, 3, [3]), (.aload_n 0, 1, []), (.getfield 38, 3, [6, 5, 1]), (.iload 6, 2, []), (.iaload, 1, []), (.ifCond .eq 32, 3, [3]), (.aload_n 0, 1, []), (.getfield 41, 3, [6, 6, 1]), (.iload 6, 2, []), (.iaload, 1, []), (.ifCond .ne 22, 3, [3]), (.aload_n 0, 1, []), (.getfield 41, 3, [6, 6, 1]), (.iload 6, 2, []), (.iconst 1, 1, []), (.iastore, 1, []), (.aload_n 0, 1, []), (.getfield 44, 3, [6, 7, 1]), (.iload_n 3, 1, []), (.iload 6, 2, []), (.iastore, 1, []), (.iinc 3 1, 3, []), (.nop, 0, [3])]),
  (114, [(.iinc 5 1, 3, []), (.goto (-77), 3, [2])]),
  (120, [(.iinc 4 1, 3, []), (.goto (-104), 3, [1])]),
  (126, [(.iload_n 3, 1, []), (.ireturn, 1, [])])]
abbrev M_X6_floodMore : Md := (85, 6, 7, (some .int), P_X6_floodMore)
theorem ok_X6_floodMore : k_okM M_X6_floodMore := by unfold k_okM; decide +kernel
def P_X6_lowestUnreachedPin : CB := [(0, [(.iconst 0, 1, []), (.istore_n 2, 1, []), (.nop, 0, [1])]),
  (2, [(.iload_n 2, 1, []), (.aload_n 0, 1, []), (.getfield 19, 3, [6, 1, 1]), (.getfield 126, 3, [3, 4, 1]), (.iload_n 1, 1, []), (.iaload, 1, []), (.if_icmp .ge 28, 3, [3]), (.aload_n 0, 1, []), (.getfield 41, 3, [6, 6, 1]), (.aload_n 0, 1, []), (.getfield 19, 3, [6, 1, 1]), (.iload_n 1, 1, []), (.iload_n 2, 1, []), (.invokevirtual 129, 3, [36, 3, 3]), (.iaload, 1, []), (.ifCond .ne 5, 3, [2]), (.iload_n 2, 1, []), (.ireturn, 1, [])]),
  (34, [(.iinc 2 1, 3, []), (.goto (-35), 3, [1])]),
  (40, [(.iconst (-1), 1, []), (.ireturn, 1, [])])]
abbrev M_X6_lowestUnreachedPin : Md := (86, 6, 3, (some .int), P_X6_lowestUnreachedPin)
theorem ok_X6_lowestUnreachedPin : k_okM M_X6_lowestUnreachedPin := by unfold k_okM; decide +kernel
def P_X6_joinsAllPins : CB := [(0, [(.aload_n 0, 1, []), (.aload_n 0, 1, []), (.getfield 19, 3, [6, 1, 1]), (.iload_n 1, 1, []), (.iconst 0, 1, []), (.invokevirtual 129, 3, [36, 3, 3]), (.iload_n 2, 1, []), (.invokevirtual 132, 3, [84, 3, 6]), (.pop, 1, []), (.aload_n 0, 1, []), (.iload_n 1, 1, []), (.invokevirtual 135, 3, [86, 2, 6]), (.iconst (-1), 1, []), (.if_icmp .ne 7, 3, [1]), (.iconst 1, 1, []), (.goto 4, 3, [2])]),
  (28, [(.iconst 0, 1, []), (.nop, 0, [2])]),
  (29, [(.ireturn, 1, [])])]
abbrev M_X6_joinsAllPins : Md := (87, 6, 3, (some .boolean), P_X6_joinsAllPins)
theorem ok_X6_joinsAllPins : k_okM M_X6_joinsAllPins := by unfold k_okM; decide +kernel
def P_X7_layNet : CB := [(0, [(.aload_n 0, 1, []), (.getfield 17, 3, [7, 1, 1]), (.getfield 50, 3, [3, 4, 1]), (.iload_n 1, 1, []), (.iaload, 1, []), (.ifCond .ne 5, 3, [1]), (.iconst (-1), 1, []), (.ireturn, 1, [])]),
  (14, [(.aload_n 0, 1, []), (.getfield 21, 3, [7, 2, 1]), (.iload_n 1, 1, []), (.iconst 0, 1, []), (.invokevirtual 55, 3, [77, 3, 6]), (.aload_n 0, 1, []), (.getfield 21, 3, [7, 2, 1]), (.iconst 0, 1, []), (.invokevirtual 61, 3, [81, 2, 6]), (.aload_n 0, 1, []), (.getfield 21, 3, [7, 2, 1]), (.iload_n 1, 1, []), (.bipush 6, 2, []), (.invokevirtual 65, 3, [87, 3, 6]), (.ifCond .ne 5, 3, [2]), (.iconst (-1), 1, []), (.ireturn, 1, [])]),
  (46, [(.aload_n 0, 1, []), (.getfield 17, 3, [7, 1, 1]), (.iload_n 1, 1, []), (.invokevirtual 69, 3, [44, 2, 3]), (.aload_n 0, 1, []), (.iload_n 1, 1, []), (.iconst 1, 1, []), (.invokevirtual 72, 3, [91, 3, 7]), (.ireturn, 1, [])])]
abbrev M_X7_layNet : Md := (89, 7, 2, (some .int), P_X7_layNet)
theorem ok_X7_layNet : k_okM M_X7_layNet := by unfold k_okM; decide +kernel
def P_X7_tryCost : CB := [(0, [(.aload_n 0, 1, []), (.getfield 17, 3, [7, 1, 1]), (.getfield 50, 3, [3, 4, 1]), (.iload_n 1, 1, []), (.iaload, 1, []), (.ifCond .ne 5, 3, [1]), (.iconst (-1), 1, []), (.ireturn, 1, [])]),
  (14, [(.aload_n 0, 1, []), (.getfield 21, 3, [7, 2, 1]), (.iload_n 1, 1, []), (.iconst 0, 1, []), (.invokevirtual 55, 3, [77, 3, 6]), (.aload_n 0, 1, []), (.getfield 21, 3, [7, 2, 1]), (.iconst 0, 1, []), (.invokevirtual 61, 3, [81, 2, 6]), (.aload_n 0, 1, []), (.getfield 17, 3, [7, 1, 1]), (.invokevirtual 76, 3, [57, 1, 3]), (.aload_n 0, 1, []), (.getfield 17, 3, [7, 1, 1]), (.iload_n 1, 1, []), (.invokevirtual 69, 3, [44, 2, 3]), (.aload_n 0, 1, []), (.iload_n 1, 1, []), (.iload_n 2, 1, []), (.invokevirtual 72, 3, [91, 3, 7]), (.istore_n 3, 1, []), (.aload_n 0, 1, []), (.getfield 17, 3, [7, 1, 1]), (.invokevirtual 79, 3, [58, 1, 3]), (.iload_n 3, 1, []), (.ireturn, 1, [])])]
abbrev M_X7_tryCost : Md := (90, 7, 4, (some .int), P_X7_tryCost)
theorem ok_X7_tryCost : k_okM M_X7_tryCost := by unfold k_okM; decide +kernel
def P_X7_layRows : CB := [(0, [(.aload_n 0, 1, []), (.getfield 17, 3, [7, 1, 1]), (.iload_n 1, 1, []), (.iconst 2, 1, []), (.invokevirtual 82, 3, [34, 3, 3]), (.istore_n 3, 1, []), (.aload_n 0, 1, []), (.iload_n 3, 1, []), (.ifCond .ne 7, 3, [1]), (.iconst 1, 1, []), (.goto 4, 3, [2])]),
  (19, [(.iconst 5, 1, []), (.nop, 0, [2])]),
  (20, [(.putfield 86, 3, [7, 10, 0]), (.aload_n 0, 1, []), (.iload_n 2, 1, []), (.ifCond .eq 8, 3, [3]), (.bipush 6, 2, []), (.goto 4, 3, [4])]),
  (33, [(.iconst 4, 1, []), (.nop, 0, [4])]),
  (34, [(.putfield 89, 3, [7, 11, 0]), (.aload_n 0, 1, []), (.aload_n 0, 1, []), (.getfield 17, 3, [7, 1, 1]), (.iload_n 1, 1, []), (.iconst 0, 1, []), (.invokevirtual 82, 3, [34, 3, 3]), (.bipush 11, 2, []), (.ishl, 1, []), (.iconst 1, 1, []), (.iadd, 1, []), (.putfield 92, 3, [7, 12, 0]), (.aload_n 0, 1, []), (.aload_n 0, 1, []), (.getfield 17, 3, [7, 1, 1]), (.iload_n 1, 1, []), (.iconst 1, 1, []), (.invokevirtual 82, 3, [34, 3, 3]), (.bipush 11, 2, []), (.ishl, 1, []), (.iconst 1, 1, []), (.iadd, 1, []), (.putfield 95, 3, [7, 13, 0]), (.aload_n 0, 1, []), (.iload_n 3, 1, []), (.bipush 11, 2, []), (.ishl, 1, []), (.putfield 98, 3, [7, 14, 0]), (.iconst 0, 1, []), (.istore 4, 2, []), (.aload_n 0, 1, []), (.iload_n 1, 1, []), (.invokevirtual 101, 3, [92, 2, 7]), (.iconst 1, 1, []), (.istore 5, 2, []), (.nop, 0, [5])]),
  (92, [(.iload 5, 2, []), (.aload_n 0, 1, []), (.getfield 17, 3, [7, 1, 1]), (.getfield 50, 3, [3, 4, 1]), (.iload_n 1, 1, []), (.iaload, 1, []), (.if_icmp .ge 81, 3, [8]), (.aload_n 0, 1, []), (.getfield 17, 3, [7, 1, 1]), (.iload_n 1, 1, []), (.iload 5, 2, []), (.invokevirtual 104, 3, [36, 3, 3]), (.istore 6, 2, []), (.aload_n 0, 1, []), (.getfield 35, 3, [7, 4, 1]), (.iload 6, 2, []), (.iaload, 1, []), (.ifCond .ne 53, 3, [7]), (.aload_n 0, 1, []), (.iload 6, 2, []), (.invokevirtual 107, 3, [93, 2, 7]), (.ifCond .ne 5, 3, [6]), (.iconst (-1), 1, []), (.ireturn, 1, [])]),
  (139, [(.iload 4, 2, []), (.aload_n 0, 1, []), (.getfield 41, 3, [7, 6, 1]), (.iload 6, 2, []), (.aload_n 0, 1, []), (.getfield 86, 3, [7, 10, 0]), (.imul, 1, []), (.aload_n 0, 1, []), (.getfield 86, 3, [7, 10, 0]), (.iadd, 1, []), (.iconst 1, 1, []), (.isub, 1, []), (.iaload, 1, []), (.bipush 11, 2, []), (.ishr, 1, []), (.iadd, 1, []), (.istore 4, 2, []), (.aload_n 0, 1, []), (.iload_n 1, 1, []), (.iload 6, 2, []), (.invokevirtual 111, 3, [98, 3, 7]), (.aload_n 0, 1, []), (.iload_n 1, 1, []), (.invokevirtual 101, 3, [92, 2, 7]), (.nop, 0, [7])]),
  (178, [(.iinc 5 1, 3, []), (.goto (-89), 3, [5])]),
  (184, [(.iload 4, 2, []), (.ireturn, 1, [])])]
abbrev M_X7_layRows : Md := (91, 7, 7, (some .int), P_X7_layRows)
theorem ok_X7_layRows : k_okM M_X7_layRows := by unfold k_okM; decide +kernel
def P_X7_markJoined : CB := [(0, [(.aload_n 0, 1, []), (.getfield 35, 3, [7, 4, 1]), (.iconst 0, 1, []), (.invokestatic 115, 3, [323, 2]), (.aload_n 0, 1, []), (.getfield 38, 3, [7, 5, 1]), (.iconst 0, 1, []), (.aload_n 0, 1, []), (.getfield 17, 3, [7, 1, 1]), (.iload_n 1, 1, []), (.iconst 0, 1, []), (.invokevirtual 104, 3, [36, 3, 3]), (.iastore, 1, []), (.aload_n 0, 1, []), (.getfield 35, 3, [7, 4, 1]), (.aload_n 0, 1, []), (.getfield 38, 3, [7, 5, 1]), (.iconst 0, 1, []), (.iaload, 1, []), (.iconst 1, 1, []), (.iastore, 1, []), (.iconst 1, 1, []), (.istore_n 2, 1, []), (.iconst 0, 1, []), (.istore_n 3, 1, []), (.nop, 0, [1])]),
  (39, [(.iload_n 3, 1, []), (.iload_n 2, 1, []), (.if_icmp .ge 119, 3, [5]), (.iload_n 3, 1, []), (.aload_n 0, 1, []), (.getfield 11, 3, [7, 0, 1]), (.getfield 25, 3, [2, 4, 0]), (.if_icmp .ge 108, 3, [5]), (.aload_n 0, 1, []), (.getfield 17, 3, [7, 1, 1]), (.iload_n 1, 1, []), (.aload_n 0, 1, []), (.getfield 38, 3, [7, 5, 1]), (.iload_n 3, 1, []), (.iaload, 1, []), (.invokevirtual 121, 3, [53, 3, 3]), (.istore 4, 2, []), (.iconst 0, 1, []), (.istore 5, 2, []), (.nop, 0, [2])]),
  (74, [(.iload 5, 2, []), (.bipush 6, 2, []), (.if_icmp .ge 76, 3, [4]), (.aload_n 0, 1, []), (.getfield 11, 3, [7, 0, 1]), (.getfield 124, 3, [2, 5, 1]), (.aload_n 0, 1, []), (.getfield 38, 3, [7, 5, 1]), (.iload_n 3, 1, []), (.iaload, 1, []), (.bipush 6, 2, []), (.imul, 1, []), (.iload 5, 2, []), (.iadd, 1, []), (.iaload, 1, []), (.istore 6, 2, []), (.iload 4, 2, []), (.iload 5, 2, []), (.ishr, 1, []), (.iconst 1, 1, []), (.iand, 1, []), (.ifCond .eq 38, 3, [3]), (.iload 6, 2, []), (.iconst (-1), 1, []), (.if_icmp .eq 32, 3, [3]), (.aload_n 0, 1, []), (.getfield 35, 3, [7, 4, 1]), (.iload 6, 2, []), (.iaload, 1, []), (.ifCond .ne 22, 3, [3]), (.aload_n 0, 1, []), (.getfield 35, 3, [7, 4, 1]), (.iload 6, 2, []), (.iconst 1, 1, []), (.iastore, 1, []), (.aload_n 0, 1, []), (.getfield 38, 3, [7, 5, 1]), (.iload_n 2, 1, []), (.iload 6, 2, []), (.iastore, 1, []), (.iinc 2 1, 3, []), (.nop, 0, [3])]),
  (148, [(.iinc 5 1, 3, []), (.goto (-77), 3, [2])]),
  (154, [(.iinc 3 1, 3, []), (.goto (-118), 3, [1])]),
  (160, [(.return_, 1, [])])]
abbrev M_X7_markJoined : Md := (92, 7, 7, none, P_X7_markJoined)
theorem ok_X7_markJoined : k_okM M_X7_markJoined := by unfold k_okM; decide +kernel
end
section
/-! code as data (written by wip/whole/gencode.py) -/
def P_X7_search : CB := [(0, [(.aload_n 0, 1, []), (.getfield 11, 3, [7, 0, 1]), (.getfield 25, 3, [2, 4, 0]), (.aload_n 0, 1, []), (.getfield 86, 3, [7, 10, 0]), (.imul, 1, []), (.istore_n 2, 1, []), (.aload_n 0, 1, []), (.getfield 41, 3, [7, 6, 1]), (.iconst 0, 1, []), (.iload_n 2, 1, []), (.ldc 127, 2, [2147483647]), (.invokestatic 128, 3, [324, 4]), (.aload_n 0, 1, []), (.getfield 47, 3, [7, 8, 1]), (.iconst 0, 1, []), (.iload_n 2, 1, []), (.iconst (-1), 1, []), (.invokestatic 128, 3, [324, 4]), (.aload_n 0, 1, []), (.iconst 0, 1, []), (.putfield 131, 3, [7, 9, 0]), (.iconst 0, 1, []), (.istore_n 3, 1, []), (.nop, 0, [1])]),
  (41, [(.iload_n 3, 1, []), (.aload_n 0, 1, []), (.getfield 11, 3, [7, 0, 1]), (.getfield 25, 3, [2, 4, 0]), (.if_icmp .ge 50, 3, [4]), (.iconst 0, 1, []), (.istore 4, 2, []), (.nop, 0, [2])]),
  (55, [(.aload_n 0, 1, []), (.getfield 35, 3, [7, 4, 1]), (.iload_n 3, 1, []), (.iaload, 1, []), (.ifCond .eq 32, 3, [3]), (.iload 4, 2, []), (.aload_n 0, 1, []), (.getfield 86, 3, [7, 10, 0]), (.if_icmp .ge 23, 3, [3]), (.aload_n 0, 1, []), (.iload_n 3, 1, []), (.aload_n 0, 1, []), (.getfield 86, 3, [7, 10, 0]), (.imul, 1, []), (.iload 4, 2, []), (.iadd, 1, []), (.iconst 0, 1, []), (.invokevirtual 134, 3, [96, 3, 7]), (.iinc 4 1, 3, []), (.goto (-35), 3, [2])]),
  (93, [(.iinc 3 1, 3, []), (.goto (-55), 3, [1])]),
  (99, [(.iload_n 1, 1, []), (.aload_n 0, 1, []), (.getfield 86, 3, [7, 10, 0]), (.imul, 1, []), (.aload_n 0, 1, []), (.getfield 86, 3, [7, 10, 0]), (.iadd, 1, []), (.iconst 1, 1, []), (.isub, 1, []), (.istore_n 3, 1, []), (.iconst 0, 1, []), (.istore 4, 2, []), (.nop, 0, [5])]),
  (116, [(.iload 4, 2, []), (.iload_n 2, 1, []), (.if_icmp .ge 36, 3, [7]), (.aload_n 0, 1, []), (.getfield 131, 3, [7, 9, 0]), (.ifCond .le 29, 3, [7]), (.aload_n 0, 1, []), (.invokevirtual 137, 3, [97, 1, 7]), (.istore 5, 2, []), (.iload 5, 2, []), (.iload_n 3, 1, []), (.if_icmp .ne 5, 3, [6]), (.iconst 1, 1, []), (.ireturn, 1, [])]),
  (143, [(.aload_n 0, 1, []), (.iload 5, 2, []), (.invokevirtual 141, 3, [94, 2, 7]), (.iinc 4 1, 3, []), (.goto (-36), 3, [5])]),
  (155, [(.iconst 0, 1, []), (.ireturn, 1, [])])]
abbrev M_X7_search : Md := (93, 7, 6, (some .boolean), P_X7_search)
theorem ok_X7_search : k_okM M_X7_search := by unfold k_okM; decide +kernel
def P_X7_comeFrom : CB := [(0, [(.aload_n 0, 1, []), (.getfield 86, 3, [7, 10, 0]), (.iconst 1, 1, []), (.if_icmp .ne 7, 3, [1]), (.iload_n 1, 1, []), (.goto 6, 3, [2])]),
  (12, [(.iload_n 1, 1, []), (.iconst 5, 1, []), (.idiv, 1, []), (.nop, 0, [2])]),
  (15, [(.istore_n 2, 1, []), (.iload_n 1, 1, []), (.iload_n 2, 1, []), (.aload_n 0, 1, []), (.getfield 86, 3, [7, 10, 0]), (.imul, 1, []), (.isub, 1, []), (.istore_n 3, 1, []), (.aload_n 0, 1, []), (.getfield 41, 3, [7, 6, 1]), (.iload_n 1, 1, []), (.iaload, 1, []), (.aload_n 0, 1, []), (.getfield 31, 3, [7, 3, 1]), (.iload_n 2, 1, []), (.iaload, 1, []), (.bipush 11, 2, []), (.ishl, 1, []), (.iadd, 1, []), (.istore 4, 2, []), (.iconst 0, 1, []), (.istore 5, 2, []), (.nop, 0, [3])]),
  (46, [(.iload 5, 2, []), (.aload_n 0, 1, []), (.getfield 89, 3, [7, 11, 0]), (.if_icmp .ge 153, 3, [9]), (.aload_n 0, 1, []), (.getfield 11, 3, [7, 0, 1]), (.getfield 124, 3, [2, 5, 1]), (.iload_n 2, 1, []), (.bipush 6, 2, []), (.imul, 1, []), (.getstatic 144, 3, [0]), (.iload 5, 2, []), (.iaload, 1, []), (.iadd, 1, []), (.iaload, 1, []), (.istore 6, 2, []), (.iload 6, 2, []), (.iconst (-1), 1, []), (.if_icmp .eq 120, 3, [8]), (.aload_n 0, 1, []), (.getfield 21, 3, [7, 2, 1]), (.getfield 147, 3, [6, 5, 1]), (.iload 6, 2, []), (.iaload, 1, []), (.ifCond .ne 6, 3, [4]), (.goto 104, 3, [8])]),
  (98, [(.iload 5, 2, []), (.iconst 4, 1, []), (.if_icmp .lt 26, 3, [5]), (.aload_n 0, 1, []), (.iload 6, 2, []), (.aload_n 0, 1, []), (.getfield 86, 3, [7, 10, 0]), (.imul, 1, []), (.iload_n 3, 1, []), (.iadd, 1, []), (.iload 4, 2, []), (.aload_n 0, 1, []), (.getfield 95, 3, [7, 13, 0]), (.iadd, 1, []), (.invokevirtual 134, 3, [96, 3, 7]), (.goto 75, 3, [8])]),
  (127, [(.aload_n 0, 1, []), (.getfield 86, 3, [7, 10, 0]), (.iconst 1, 1, []), (.if_icmp .ne 19, 3, [6]), (.aload_n 0, 1, []), (.iload 6, 2, []), (.iload 4, 2, []), (.aload_n 0, 1, []), (.getfield 92, 3, [7, 12, 0]), (.iadd, 1, []), (.invokevirtual 134, 3, [96, 3, 7]), (.goto 51, 3, [8])]),
  (151, [(.iload 5, 2, []), (.iload_n 3, 1, []), (.if_icmp .ne 45, 3, [8]), (.iconst 0, 1, []), (.istore 7, 2, []), (.nop, 0, [7])]),
  (160, [(.iload 7, 2, []), (.iconst 5, 1, []), (.if_icmp .ge 36, 3, [8]), (.aload_n 0, 1, []), (.iload 6, 2, []), (.iconst 5, 1, []), (.imul, 1, []), (.iload 7, 2, []), (.iadd, 1, []), (.iload 4, 2, []), (.aload_n 0, 1, []), (.getfield 92, 3, [7, 12, 0]), (.iadd, 1, []), (.aload_n 0, 1, []), (.iload 7, 2, []), (.iload 5, 2, []), (.invokevirtual 150, 3, [95, 3, 7]), (.iadd, 1, []), (.invokevirtual 134, 3, [96, 3, 7]), (.iinc 7 1, 3, []), (.goto (-36), 3, [7])]),
  (199, [(.iinc 5 1, 3, []), (.goto (-156), 3, [3])]),
  (205, [(.return_, 1, [])])]
abbrev M_X7_comeFrom : Md := (94, 7, 8, none, P_X7_comeFrom)
theorem ok_X7_comeFrom : k_okM M_X7_comeFrom := by unfold k_okM; decide +kernel
def P_X7_bendFrom : CB := [(0, [(.iload_n 1, 1, []), (.iconst 4, 1, []), (.if_icmp .eq 8, 3, [1]), (.iload_n 1, 1, []), (.iload_n 2, 1, []), (.if_icmp .ne 7, 3, [2]), (.nop, 0, [1])]),
  (10, [(.iconst 0, 1, []), (.goto 7, 3, [3])]),
  (14, [(.aload_n 0, 1, []), (.getfield 98, 3, [7, 14, 0]), (.nop, 0, [3])]),
  (18, [(.ireturn, 1, [])])]
abbrev M_X7_bendFrom : Md := (95, 7, 3, (some .int), P_X7_bendFrom)
theorem ok_X7_bendFrom : k_okM M_X7_bendFrom := by unfold k_okM; decide +kernel
def P_X7_offer : CB := [(0, [(.iload_n 2, 1, []), (.aload_n 0, 1, []), (.getfield 41, 3, [7, 6, 1]), (.iload_n 1, 1, []), (.iaload, 1, []), (.if_icmp .lt 4, 3, [1]), (.return_, 1, [])]),
  (11, [(.aload_n 0, 1, []), (.getfield 41, 3, [7, 6, 1]), (.iload_n 1, 1, []), (.iload_n 2, 1, []), (.iastore, 1, []), (.aload_n 0, 1, []), (.getfield 47, 3, [7, 8, 1]), (.iload_n 1, 1, []), (.iaload, 1, []), (.istore_n 3, 1, []), (.iload_n 3, 1, []), (.iconst (-1), 1, []), (.if_icmp .ne 18, 3, [2]), (.aload_n 0, 1, []), (.getfield 131, 3, [7, 9, 0]), (.istore_n 3, 1, []), (.aload_n 0, 1, []), (.dup, 1, []), (.getfield 131, 3, [7, 9, 0]), (.iconst 1, 1, []), (.iadd, 1, []), (.putfield 131, 3, [7, 9, 0]), (.nop, 0, [2])]),
  (45, [(.iload_n 3, 1, []), (.ifCond .le 59, 3, [3]), (.aload_n 0, 1, []), (.getfield 41, 3, [7, 6, 1]), (.aload_n 0, 1, []), (.getfield 44, 3, [7, 7, 1]), (.iload_n 3, 1, []), (.iconst 1, 1, []), (.isub, 1, []), (.iconst 1, 1, []), (.ishr, 1, []), (.iaload, 1, []), (.iaload, 1, []), (.iload_n 2, 1, []), (.if_icmp .le 40, 3, [3]), (.aload_n 0, 1, []), (.getfield 44, 3, [7, 7, 1]), (.iload_n 3, 1, []), (.aload_n 0, 1, []), (.getfield 44, 3, [7, 7, 1]), (.iload_n 3, 1, []), (.iconst 1, 1, []), (.isub, 1, []), (.iconst 1, 1, []), (.ishr, 1, []), (.iaload, 1, []), (.iastore, 1, []), (.aload_n 0, 1, []), (.getfield 47, 3, [7, 8, 1]), (.aload_n 0, 1, []), (.getfield 44, 3, [7, 7, 1]), (.iload_n 3, 1, []), (.iaload, 1, []), (.iload_n 3, 1, []), (.iastore, 1, []), (.iload_n 3, 1, []), (.iconst 1, 1, []), (.isub, 1, []), (.iconst 1, 1, []), (.ishr, 1, []), (.istore_n 3, 1, []), (.goto (-57), 3, [2])]),
  (105, [(.aload_n 0, 1, []), (.getfield 44, 3, [7, 7, 1]), (.iload_n 3, 1, []), (.iload_n 1, 1, []), (.iastore, 1, []), (.aload_n 0, 1, []), (.getfield 47, 3, [7, 8, 1]), (.iload_n 1, 1, []), (.iload_n 3, 1, []), (.iastore, 1, []), (.return_, 1, [])])]
abbrev M_X7_offer : Md := (96, 7, 4, none, P_X7_offer)
theorem ok_X7_offer : k_okM M_X7_offer := by unfold k_okM; decide +kernel
def P_X7_takeLeast : CB := [(0, [(.aload_n 0, 1, []), (.getfield 44, 3, [7, 7, 1]), (.iconst 0, 1, []), (.iaload, 1, []), (.istore_n 1, 1, []), (.aload_n 0, 1, []), (.dup, 1, []), (.getfield 131, 3, [7, 9, 0]), (.iconst 1, 1, []), (.isub, 1, []), (.putfield 131, 3, [7, 9, 0]), (.aload_n 0, 1, []), (.getfield 44, 3, [7, 7, 1]), (.aload_n 0, 1, []), (.getfield 131, 3, [7, 9, 0]), (.iaload, 1, []), (.istore_n 2, 1, []), (.iconst 0, 1, []), (.istore_n 3, 1, []), (.iconst 1, 1, []), (.istore 4, 2, []), (.nop, 0, [1])]),
  (32, [(.iload 4, 2, []), (.aload_n 0, 1, []), (.getfield 131, 3, [7, 9, 0]), (.if_icmp .ge 108, 3, [4]), (.iload 4, 2, []), (.iconst 1, 1, []), (.iadd, 1, []), (.aload_n 0, 1, []), (.getfield 131, 3, [7, 9, 0]), (.if_icmp .ge 35, 3, [2]), (.aload_n 0, 1, []), (.getfield 41, 3, [7, 6, 1]), (.aload_n 0, 1, []), (.getfield 44, 3, [7, 7, 1]), (.iload 4, 2, []), (.iconst 1, 1, []), (.iadd, 1, []), (.iaload, 1, []), (.iaload, 1, []), (.aload_n 0, 1, []), (.getfield 41, 3, [7, 6, 1]), (.aload_n 0, 1, []), (.getfield 44, 3, [7, 7, 1]), (.iload 4, 2, []), (.iaload, 1, []), (.iaload, 1, []), (.if_icmp .ge 6, 3, [2]), (.iinc 4 1, 3, []), (.nop, 0, [2])]),
  (84, [(.aload_n 0, 1, []), (.getfield 41, 3, [7, 6, 1]), (.aload_n 0, 1, []), (.getfield 44, 3, [7, 7, 1]), (.iload 4, 2, []), (.iaload, 1, []), (.iaload, 1, []), (.aload_n 0, 1, []), (.getfield 41, 3, [7, 6, 1]), (.iload_n 2, 1, []), (.iaload, 1, []), (.if_icmp .lt 6, 3, [3]), (.goto 41, 3, [4])]),
  (108, [(.aload_n 0, 1, []), (.getfield 44, 3, [7, 7, 1]), (.iload_n 3, 1, []), (.aload_n 0, 1, []), (.getfield 44, 3, [7, 7, 1]), (.iload 4, 2, []), (.iaload, 1, []), (.iastore, 1, []), (.aload_n 0, 1, []), (.getfield 47, 3, [7, 8, 1]), (.aload_n 0, 1, []), (.getfield 44, 3, [7, 7, 1]), (.iload_n 3, 1, []), (.iaload, 1, []), (.iload_n 3, 1, []), (.iastore, 1, []), (.iload 4, 2, []), (.istore_n 3, 1, []), (.iconst 2, 1, []), (.iload_n 3, 1, []), (.imul, 1, []), (.iconst 1, 1, []), (.iadd, 1, []), (.istore 4, 2, []), (.goto (-111), 3, [1])]),
  (146, [(.aload_n 0, 1, []), (.getfield 44, 3, [7, 7, 1]), (.iload_n 3, 1, []), (.iload_n 2, 1, []), (.iastore, 1, []), (.aload_n 0, 1, []), (.getfield 47, 3, [7, 8, 1]), (.iload_n 2, 1, []), (.iload_n 3, 1, []), (.iastore, 1, []), (.aload_n 0, 1, []), (.getfield 47, 3, [7, 8, 1]), (.iload_n 1, 1, []), (.iconst (-1), 1, []), (.iastore, 1, []), (.iload_n 1, 1, []), (.ireturn, 1, [])])]
abbrev M_X7_takeLeast : Md := (97, 7, 5, (some .int), P_X7_takeLeast)
theorem ok_X7_takeLeast : k_okM M_X7_takeLeast := by unfold k_okM; decide +kernel
def P_X7_walk : CB := [(0, [(.iload_n 2, 1, []), (.istore_n 3, 1, []), (.aload_n 0, 1, []), (.getfield 86, 3, [7, 10, 0]), (.iconst 1, 1, []), (.isub, 1, []), (.istore 4, 2, []), (.iconst 0, 1, []), (.istore 5, 2, []), (.nop, 0, [1])]),
  (13, [(.iload 5, 2, []), (.aload_n 0, 1, []), (.getfield 11, 3, [7, 0, 1]), (.getfield 25, 3, [2, 4, 0]), (.if_icmp .ge 62, 3, [4]), (.aload_n 0, 1, []), (.getfield 35, 3, [7, 4, 1]), (.iload_n 3, 1, []), (.iaload, 1, []), (.ifCond .ne 53, 3, [4]), (.aload_n 0, 1, []), (.iload_n 3, 1, []), (.iload 4, 2, []), (.invokevirtual 153, 3, [100, 3, 7]), (.istore 6, 2, []), (.iload 6, 2, []), (.iconst (-1), 1, []), (.if_icmp .ne 4, 3, [2]), (.return_, 1, [])]),
  (50, [(.aload_n 0, 1, []), (.iload 4, 2, []), (.iload 6, 2, []), (.invokevirtual 156, 3, [99, 3, 7]), (.istore 4, 2, []), (.aload_n 0, 1, []), (.getfield 17, 3, [7, 1, 1]), (.iload_n 1, 1, []), (.iload_n 3, 1, []), (.iload 6, 2, []), (.invokevirtual 159, 3, [41, 4, 3]), (.istore_n 3, 1, []), (.iload_n 3, 1, []), (.iconst (-1), 1, []), (.if_icmp .ne 4, 3, [3]), (.return_, 1, [])]),
  (78, [(.iinc 5 1, 3, []), (.goto (-68), 3, [1])]),
  (84, [(.return_, 1, [])])]
abbrev M_X7_walk : Md := (98, 7, 7, none, P_X7_walk)
theorem ok_X7_walk : k_okM M_X7_walk := by unfold k_okM; decide +kernel
def P_X7_laneBehind : CB := [(0, [(.aload_n 0, 1, []), (.getfield 86, 3, [7, 10, 0]), (.iconst 1, 1, []), (.if_icmp .eq 8, 3, [1]), (.iload_n 2, 1, []), (.iconst 4, 1, []), (.if_icmp .lt 7, 3, [2]), (.nop, 0, [1])]),
  (13, [(.iload_n 1, 1, []), (.goto 4, 3, [3])]),
  (17, [(.iload_n 2, 1, []), (.nop, 0, [3])]),
  (18, [(.ireturn, 1, [])])]
abbrev M_X7_laneBehind : Md := (99, 7, 3, (some .int), P_X7_laneBehind)
theorem ok_X7_laneBehind : k_okM M_X7_laneBehind := by unfold k_okM; decide +kernel
def P_X7_firstMove : CB := [(0, [(.aload_n 0, 1, []), (.getfield 41, 3, [7, 6, 1]), (.iload_n 1, 1, []), (.aload_n 0, 1, []), (.getfield 86, 3, [7, 10, 0]), (.imul, 1, []), (.iload_n 2, 1, []), (.iadd, 1, []), (.iaload, 1, []), (.istore_n 3, 1, []), (.iconst 0, 1, []), (.istore 4, 2, []), (.nop, 0, [1])]),
  (17, [(.iload 4, 2, []), (.aload_n 0, 1, []), (.getfield 89, 3, [7, 11, 0]), (.if_icmp .ge 139, 3, [8]), (.aload_n 0, 1, []), (.getfield 11, 3, [7, 0, 1]), (.getfield 124, 3, [2, 5, 1]), (.iload_n 1, 1, []), (.bipush 6, 2, []), (.imul, 1, []), (.iload 4, 2, []), (.iadd, 1, []), (.iaload, 1, []), (.istore 5, 2, []), (.iload 5, 2, []), (.iconst (-1), 1, []), (.if_icmp .eq 110, 3, [7]), (.aload_n 0, 1, []), (.getfield 21, 3, [7, 2, 1]), (.getfield 147, 3, [6, 5, 1]), (.iload 5, 2, []), (.iaload, 1, []), (.ifCond .ne 6, 3, [2]), (.goto 94, 3, [7])]),
  (65, [(.aload_n 0, 1, []), (.getfield 41, 3, [7, 6, 1]), (.iload 5, 2, []), (.aload_n 0, 1, []), (.getfield 86, 3, [7, 10, 0]), (.imul, 1, []), (.aload_n 0, 1, []), (.iload_n 2, 1, []), (.iload 4, 2, []), (.invokevirtual 156, 3, [99, 3, 7]), (.iadd, 1, []), (.iaload, 1, []), (.istore 6, 2, []), (.iload 4, 2, []), (.iconst 4, 1, []), (.if_icmp .lt 10, 3, [3]), (.aload_n 0, 1, []), (.getfield 95, 3, [7, 13, 0]), (.goto 27, 3, [6])]),
  (100, [(.aload_n 0, 1, []), (.getfield 92, 3, [7, 12, 0]), (.aload_n 0, 1, []), (.getfield 86, 3, [7, 10, 0]), (.iconst 1, 1, []), (.if_icmp .ne 7, 3, [4]), (.iconst 0, 1, []), (.goto 10, 3, [5])]),
  (116, [(.aload_n 0, 1, []), (.iload_n 2, 1, []), (.iload 4, 2, []), (.invokevirtual 150, 3, [95, 3, 7]), (.nop, 0, [5])]),
  (123, [(.iadd, 1, []), (.nop, 0, [6])]),
  (124, [(.istore 7, 2, []), (.iload 6, 2, []), (.ldc 127, 2, [2147483647]), (.if_icmp .eq 26, 3, [7]), (.iload 6, 2, []), (.iload 7, 2, []), (.iadd, 1, []), (.aload_n 0, 1, []), (.getfield 31, 3, [7, 3, 1]), (.iload 5, 2, []), (.iaload, 1, []), (.bipush 11, 2, []), (.ishl, 1, []), (.iadd, 1, []), (.iload_n 3, 1, []), (.if_icmp .ne 6, 3, [7]), (.iload 4, 2, []), (.ireturn, 1, [])]),
  (156, [(.iinc 4 1, 3, []), (.goto (-142), 3, [1])]),
  (162, [(.iconst (-1), 1, []), (.ireturn, 1, [])])]
abbrev M_X7_firstMove : Md := (100, 7, 8, (some .int), P_X7_firstMove)
theorem ok_X7_firstMove : k_okM M_X7_firstMove := by unfold k_okM; decide +kernel
def P_X8_bytesIn : CB := [(0, [(.iconst 0, 1, []), (.istore_n 1, 1, []), (.bipush 24, 2, []), (.istore_n 2, 1, []), (.nop, 0, [1])]),
  (5, [(.iload_n 2, 1, []), (.ifCond .lt 22, 3, [3]), (.iload_n 0, 1, []), (.iload_n 2, 1, []), (.iushr, 1, []), (.sipush 255, 3, []), (.iand, 1, []), (.ifCond .eq 6, 3, [2]), (.iinc 1 1, 3, []), (.nop, 0, [2])]),
  (22, [(.iinc 2 (-8), 3, []), (.goto (-20), 3, [1])]),
  (28, [(.iload_n 1, 1, []), (.ireturn, 1, [])])]
abbrev M_X8_bytesIn : Md := (102, 8, 3, (some .int), P_X8_bytesIn)
theorem ok_X8_bytesIn : k_okM M_X8_bytesIn := by unfold k_okM; decide +kernel
def P_X8_take : CB := [(0, [(.bipush 24, 2, []), (.istore_n 2, 1, []), (.nop, 0, [1])]),
  (3, [(.iload_n 2, 1, []), (.ifCond .lt 50, 3, [3]), (.iload_n 1, 1, []), (.iload_n 2, 1, []), (.iushr, 1, []), (.sipush 255, 3, []), (.iand, 1, []), (.istore_n 3, 1, []), (.iload_n 3, 1, []), (.ifCond .eq 32, 3, [2]), (.aload_n 0, 1, []), (.getfield 22, 3, [8, 3, 0]), (.bipush 80, 2, []), (.if_icmp .ge 23, 3, [2]), (.aload_n 0, 1, []), (.getfield 9, 3, [8, 1, 1]), (.aload_n 0, 1, []), (.getfield 22, 3, [8, 3, 0]), (.iload_n 3, 1, []), (.iastore, 1, []), (.aload_n 0, 1, []), (.dup, 1, []), (.getfield 22, 3, [8, 3, 0]), (.iconst 1, 1, []), (.iadd, 1, []), (.putfield 22, 3, [8, 3, 0]), (.nop, 0, [2])]),
  (48, [(.iinc 2 (-8), 3, []), (.goto (-48), 3, [1])]),
  (54, [(.return_, 1, [])])]
abbrev M_X8_take : Md := (103, 8, 4, none, P_X8_take)
theorem ok_X8_take : k_okM M_X8_take := by unfold k_okM; decide +kernel
def P_X8_scan : CB := [(0, [(.aload_n 0, 1, []), (.iconst 0, 1, []), (.putfield 25, 3, [8, 4, 0]), (.aload_n 0, 1, []), (.iconst 0, 1, []), (.putfield 28, 3, [8, 5, 0]), (.iconst 0, 1, []), (.istore_n 1, 1, []), (.nop, 0, [1])]),
  (12, [(.iload_n 1, 1, []), (.iconst 4, 1, []), (.if_icmp .ge 20, 3, [2]), (.aload_n 0, 1, []), (.getfield 15, 3, [8, 2, 1]), (.iload_n 1, 1, []), (.getstatic 31, 3, [4]), (.iload_n 1, 1, []), (.iaload, 1, []), (.iastore, 1, []), (.iinc 1 1, 3, []), (.goto (-19), 3, [1])]),
  (34, [(.aload_n 0, 1, []), (.getfield 15, 3, [8, 2, 1]), (.iconst 4, 1, []), (.iconst 1, 1, []), (.aload_n 0, 1, []), (.getfield 18, 3, [8, 0, 0]), (.ishl, 1, []), (.iconst 1, 1, []), (.isub, 1, []), (.iastore, 1, []), (.iconst 0, 1, []), (.istore_n 1, 1, []), (.nop, 0, [3])]),
  (50, [(.iload_n 1, 1, []), (.iconst 5, 1, []), (.if_icmp .gt 67, 3, [7]), (.aload_n 0, 1, []), (.invokevirtual 34, 3, [105, 1, 8]), (.ifCond .ne 8, 3, [4]), (.aload_n 0, 1, []), (.getfield 25, 3, [8, 4, 0]), (.ireturn, 1, [])]),
  (67, [(.aload_n 0, 1, []), (.invokevirtual 38, 3, [108, 1, 8]), (.aload_n 0, 1, []), (.getfield 25, 3, [8, 4, 0]), (.aload_n 0, 1, []), (.getfield 22, 3, [8, 3, 0]), (.if_icmp .lt 5, 3, [5]), (.iconst (-1), 1, []), (.ireturn, 1, [])]),
  (84, [(.aload_n 0, 1, []), (.getfield 9, 3, [8, 1, 1]), (.aload_n 0, 1, []), (.getfield 25, 3, [8, 4, 0]), (.iaload, 1, []), (.bipush 44, 2, []), (.if_icmp .eq 8, 3, [6]), (.aload_n 0, 1, []), (.getfield 25, 3, [8, 4, 0]), (.ireturn, 1, [])]),
  (103, [(.aload_n 0, 1, []), (.dup, 1, []), (.getfield 25, 3, [8, 4, 0]), (.iconst 1, 1, []), (.iadd, 1, []), (.putfield 25, 3, [8, 4, 0]), (.iinc 1 1, 3, []), (.goto (-66), 3, [3])]),
  (119, [(.aload_n 0, 1, []), (.getfield 25, 3, [8, 4, 0]), (.ireturn, 1, [])])]
abbrev M_X8_scan : Md := (104, 8, 2, (some .int), P_X8_scan)
theorem ok_X8_scan : k_okM M_X8_scan := by unfold k_okM; decide +kernel
end
section
/-! code as data (written by wip/whole/gencode.py) -/
def P_X8_readSetting : CB := [(0, [(.aload_n 0, 1, []), (.invokevirtual 38, 3, [108, 1, 8]), (.aload_n 0, 1, []), (.invokevirtual 41, 3, [106, 1, 8]), (.istore_n 1, 1, []), (.iload_n 1, 1, []), (.iconst (-1), 1, []), (.if_icmp .eq 14, 3, [1]), (.aload_n 0, 1, []), (.getfield 28, 3, [8, 5, 0]), (.iload_n 1, 1, []), (.ishr, 1, []), (.iconst 1, 1, []), (.iand, 1, []), (.ifCond .eq 5, 3, [2]), (.nop, 0, [1])]),
  (25, [(.iconst 0, 1, []), (.ireturn, 1, [])]),
  (27, [(.aload_n 0, 1, []), (.dup, 1, []), (.getfield 28, 3, [8, 5, 0]), (.iconst 1, 1, []), (.iload_n 1, 1, []), (.ishl, 1, []), (.ior, 1, []), (.putfield 28, 3, [8, 5, 0]), (.aload_n 0, 1, []), (.dup, 1, []), (.getfield 25, 3, [8, 4, 0]), (.iconst 1, 1, []), (.iadd, 1, []), (.putfield 25, 3, [8, 4, 0]), (.aload_n 0, 1, []), (.invokevirtual 38, 3, [108, 1, 8]), (.iload_n 1, 1, []), (.iconst 4, 1, []), (.if_icmp .ne 10, 3, [3]), (.aload_n 0, 1, []), (.invokevirtual 45, 3, [110, 1, 8]), (.goto 8, 3, [4])]),
  (65, [(.aload_n 0, 1, []), (.iload_n 1, 1, []), (.invokevirtual 48, 3, [109, 2, 8]), (.nop, 0, [4])]),
  (70, [(.ireturn, 1, [])])]
abbrev M_X8_readSetting : Md := (105, 8, 2, (some .boolean), P_X8_readSetting)
theorem ok_X8_readSetting : k_okM M_X8_readSetting := by unfold k_okM; decide +kernel
def P_X8_kindHere : CB := [(0, [(.aload_n 0, 1, []), (.getfield 25, 3, [8, 4, 0]), (.aload_n 0, 1, []), (.getfield 22, 3, [8, 3, 0]), (.if_icmp .ge 35, 3, [3]), (.iconst 0, 1, []), (.istore_n 1, 1, []), (.nop, 0, [1])]),
  (13, [(.iload_n 1, 1, []), (.iconst 5, 1, []), (.if_icmp .ge 28, 3, [3]), (.aload_n 0, 1, []), (.getfield 9, 3, [8, 1, 1]), (.aload_n 0, 1, []), (.getfield 25, 3, [8, 4, 0]), (.iaload, 1, []), (.getstatic 52, 3, [1]), (.iload_n 1, 1, []), (.caload, 1, []), (.if_icmp .ne 5, 3, [2]), (.iload_n 1, 1, []), (.ireturn, 1, [])]),
  (37, [(.iinc 1 1, 3, []), (.goto (-27), 3, [1])]),
  (43, [(.iconst (-1), 1, []), (.ireturn, 1, [])])]
abbrev M_X8_kindHere : Md := (106, 8, 2, (some .int), P_X8_kindHere)
theorem ok_X8_kindHere : k_okM M_X8_kindHere := by unfold k_okM; decide +kernel
def P_X8_digitHere : CB := [(0, [(.aload_n 0, 1, []), (.getfield 25, 3, [8, 4, 0]), (.aload_n 0, 1, []), (.getfield 22, 3, [8, 3, 0]), (.if_icmp .ge 31, 3, [1]), (.aload_n 0, 1, []), (.getfield 9, 3, [8, 1, 1]), (.aload_n 0, 1, []), (.getfield 25, 3, [8, 4, 0]), (.iaload, 1, []), (.bipush 48, 2, []), (.if_icmp .lt 17, 3, [1]), (.aload_n 0, 1, []), (.getfield 9, 3, [8, 1, 1]), (.aload_n 0, 1, []), (.getfield 25, 3, [8, 4, 0]), (.iaload, 1, []), (.bipush 57, 2, []), (.if_icmp .le 5, 3, [2]), (.nop, 0, [1])]),
  (39, [(.iconst (-1), 1, []), (.ireturn, 1, [])]),
  (41, [(.aload_n 0, 1, []), (.getfield 9, 3, [8, 1, 1]), (.aload_n 0, 1, []), (.getfield 25, 3, [8, 4, 0]), (.iaload, 1, []), (.bipush 48, 2, []), (.isub, 1, []), (.ireturn, 1, [])])]
abbrev M_X8_digitHere : Md := (107, 8, 1, (some .int), P_X8_digitHere)
theorem ok_X8_digitHere : k_okM M_X8_digitHere := by unfold k_okM; decide +kernel
def P_X8_skipBlanks : CB := [(0, [(.aload_n 0, 1, []), (.getfield 25, 3, [8, 4, 0]), (.aload_n 0, 1, []), (.getfield 22, 3, [8, 3, 0]), (.if_icmp .ge 30, 3, [1]), (.aload_n 0, 1, []), (.getfield 9, 3, [8, 1, 1]), (.aload_n 0, 1, []), (.getfield 25, 3, [8, 4, 0]), (.iaload, 1, []), (.bipush 32, 2, []), (.if_icmp .ne 16, 3, [1]), (.aload_n 0, 1, []), (.dup, 1, []), (.getfield 25, 3, [8, 4, 0]), (.iconst 1, 1, []), (.iadd, 1, []), (.putfield 25, 3, [8, 4, 0]), (.goto (-35), 3, [0])]),
  (38, [(.return_, 1, [])])]
abbrev M_X8_skipBlanks : Md := (108, 8, 1, none, P_X8_skipBlanks)
theorem ok_X8_skipBlanks : k_okM M_X8_skipBlanks := by unfold k_okM; decide +kernel
def P_X8_readNumber : CB := [(0, [(.aload_n 0, 1, []), (.invokevirtual 56, 3, [107, 1, 8]), (.istore_n 2, 1, []), (.iload_n 2, 1, []), (.iconst (-1), 1, []), (.if_icmp .ne 5, 3, [1]), (.iconst 0, 1, []), (.ireturn, 1, [])]),
  (12, [(.aload_n 0, 1, []), (.dup, 1, []), (.getfield 25, 3, [8, 4, 0]), (.iconst 1, 1, []), (.iadd, 1, []), (.putfield 25, 3, [8, 4, 0]), (.aload_n 0, 1, []), (.invokevirtual 56, 3, [107, 1, 8]), (.istore_n 3, 1, []), (.iload_n 3, 1, []), (.iconst (-1), 1, []), (.if_icmp .eq 20, 3, [2]), (.iload_n 2, 1, []), (.bipush 10, 2, []), (.imul, 1, []), (.iload_n 3, 1, []), (.iadd, 1, []), (.istore_n 2, 1, []), (.aload_n 0, 1, []), (.dup, 1, []), (.getfield 25, 3, [8, 4, 0]), (.iconst 1, 1, []), (.iadd, 1, []), (.putfield 25, 3, [8, 4, 0]), (.nop, 0, [2])]),
  (49, [(.iload_n 2, 1, []), (.getstatic 59, 3, [2]), (.iload_n 1, 1, []), (.iaload, 1, []), (.if_icmp .lt 12, 3, [3]), (.iload_n 2, 1, []), (.getstatic 62, 3, [3]), (.iload_n 1, 1, []), (.iaload, 1, []), (.if_icmp .le 15, 3, [4]), (.nop, 0, [3])]),
  (67, [(.aload_n 0, 1, []), (.dup, 1, []), (.getfield 25, 3, [8, 4, 0]), (.iconst 1, 1, []), (.isub, 1, []), (.putfield 25, 3, [8, 4, 0]), (.iconst 0, 1, []), (.ireturn, 1, [])]),
  (79, [(.aload_n 0, 1, []), (.getfield 15, 3, [8, 2, 1]), (.iload_n 1, 1, []), (.iload_n 2, 1, []), (.iastore, 1, []), (.iload_n 3, 1, []), (.iconst (-1), 1, []), (.if_icmp .eq 11, 3, [5]), (.aload_n 0, 1, []), (.invokevirtual 56, 3, [107, 1, 8]), (.iconst (-1), 1, []), (.if_icmp .ne 7, 3, [6]), (.nop, 0, [5])]),
  (99, [(.iconst 1, 1, []), (.goto 4, 3, [7])]),
  (103, [(.iconst 0, 1, []), (.nop, 0, [7])]),
  (104, [(.ireturn, 1, [])])]
abbrev M_X8_readNumber : Md := (109, 8, 4, (some .boolean), P_X8_readNumber)
theorem ok_X8_readNumber : k_okM M_X8_readNumber := by unfold k_okM; decide +kernel
def P_X8_readLayers : CB := [(0, [(.iconst 0, 1, []), (.istore_n 1, 1, []), (.iconst 0, 1, []), (.istore_n 2, 1, []), (.nop, 0, [1])]),
  (4, [(.iload_n 2, 1, []), (.bipush 80, 2, []), (.if_icmp .ge 60, 3, [5]), (.aload_n 0, 1, []), (.invokevirtual 56, 3, [107, 1, 8]), (.istore_n 3, 1, []), (.iload_n 3, 1, []), (.iconst (-1), 1, []), (.if_icmp .ne 6, 3, [2]), (.goto 47, 3, [5])]),
  (23, [(.iload_n 3, 1, []), (.aload_n 0, 1, []), (.getfield 18, 3, [8, 0, 0]), (.if_icmp .ge 11, 3, [3]), (.iload_n 1, 1, []), (.iload_n 3, 1, []), (.ishr, 1, []), (.iconst 1, 1, []), (.iand, 1, []), (.ifCond .eq 5, 3, [4]), (.nop, 0, [3])]),
  (39, [(.iconst 0, 1, []), (.ireturn, 1, [])]),
  (41, [(.iload_n 1, 1, []), (.iconst 1, 1, []), (.iload_n 3, 1, []), (.ishl, 1, []), (.ior, 1, []), (.istore_n 1, 1, []), (.aload_n 0, 1, []), (.dup, 1, []), (.getfield 25, 3, [8, 4, 0]), (.iconst 1, 1, []), (.iadd, 1, []), (.putfield 25, 3, [8, 4, 0]), (.aload_n 0, 1, []), (.invokevirtual 38, 3, [108, 1, 8]), (.iinc 2 1, 3, []), (.goto (-60), 3, [1])]),
  (67, [(.aload_n 0, 1, []), (.getfield 15, 3, [8, 2, 1]), (.iconst 4, 1, []), (.iload_n 1, 1, []), (.iastore, 1, []), (.iload_n 1, 1, []), (.ifCond .eq 7, 3, [6]), (.iconst 1, 1, []), (.goto 4, 3, [7])]),
  (82, [(.iconst 0, 1, []), (.nop, 0, [7])]),
  (83, [(.ireturn, 1, [])])]
abbrev M_X8_readLayers : Md := (110, 8, 4, (some .boolean), P_X8_readLayers)
theorem ok_X8_readLayers : k_okM M_X8_readLayers := by unfold k_okM; decide +kernel
def P_X9_canFollow : CB := [(0, [(.aload_n 0, 1, []), (.getfield 15, 3, [9, 1, 1]), (.getfield 35, 3, [3, 4, 1]), (.iload_n 1, 1, []), (.iaload, 1, []), (.iconst 2, 1, []), (.if_icmp .ne 29, 3, [1]), (.aload_n 0, 1, []), (.getfield 15, 3, [9, 1, 1]), (.iload_n 1, 1, []), (.invokevirtual 40, 3, [49, 2, 3]), (.ifCond .ne 18, 3, [1]), (.aload_n 0, 1, []), (.getfield 15, 3, [9, 1, 1]), (.iload_n 1, 1, []), (.invokevirtual 44, 3, [48, 2, 3]), (.ifCond .eq 7, 3, [1]), (.iconst 1, 1, []), (.goto 4, 3, [2])]),
  (39, [(.iconst 0, 1, []), (.nop, 0, [2])]),
  (40, [(.ireturn, 1, [])])]
abbrev M_X9_canFollow : Md := (112, 9, 2, (some .boolean), P_X9_canFollow)
theorem ok_X9_canFollow : k_okM M_X9_canFollow := by unfold k_okM; decide +kernel
def P_X9_follow : CB := [(0, [(.aload_n 0, 1, []), (.getfield 15, 3, [9, 1, 1]), (.iload_n 1, 1, []), (.iconst 1, 1, []), (.invokevirtual 47, 3, [36, 3, 3]), (.istore_n 2, 1, []), (.iconst 0, 1, []), (.istore_n 3, 1, []), (.aload_n 0, 1, []), (.iconst 0, 1, []), (.putfield 51, 3, [9, 5, 0]), (.aload_n 0, 1, []), (.getfield 29, 3, [9, 3, 1]), (.iconst 0, 1, []), (.iload_n 2, 1, []), (.iastore, 1, []), (.iconst 0, 1, []), (.istore 4, 2, []), (.nop, 0, [1])]),
  (27, [(.iload 4, 2, []), (.aload_n 0, 1, []), (.getfield 9, 3, [9, 0, 1]), (.getfield 23, 3, [2, 4, 0]), (.if_icmp .ge 124, 3, [4]), (.aload_n 0, 1, []), (.getfield 15, 3, [9, 1, 1]), (.getfield 54, 3, [3, 10, 1]), (.iload_n 1, 1, []), (.aload_n 0, 1, []), (.getfield 9, 3, [9, 0, 1]), (.getfield 23, 3, [2, 4, 0]), (.imul, 1, []), (.iload_n 2, 1, []), (.iadd, 1, []), (.iaload, 1, []), (.iload_n 3, 1, []), (.iconst (-1), 1, []), (.ixor, 1, []), (.iand, 1, []), (.istore 5, 2, []), (.iload 5, 2, []), (.invokestatic 57, 3, [315, 1]), (.istore 6, 2, []), (.iload 6, 2, []), (.bipush 6, 2, []), (.if_icmp .ge 22, 3, [2]), (.aload_n 0, 1, []), (.getfield 9, 3, [9, 0, 1]), (.getfield 63, 3, [2, 5, 1]), (.iload_n 2, 1, []), (.bipush 6, 2, []), (.imul, 1, []), (.iload 6, 2, []), (.iadd, 1, []), (.iaload, 1, []), (.iconst (-1), 1, []), (.if_icmp .ne 4, 3, [3]), (.nop, 0, [2])]),
  (97, [(.return_, 1, [])]),
  (98, [(.aload_n 0, 1, []), (.getfield 32, 3, [9, 4, 1]), (.aload_n 0, 1, []), (.getfield 51, 3, [9, 5, 0]), (.iload 6, 2, []), (.iastore, 1, []), (.iconst 1, 1, []), (.getstatic 66, 3, [0]), (.iload 6, 2, []), (.iaload, 1, []), (.ishl, 1, []), (.istore_n 3, 1, []), (.aload_n 0, 1, []), (.getfield 9, 3, [9, 0, 1]), (.getfield 63, 3, [2, 5, 1]), (.iload_n 2, 1, []), (.bipush 6, 2, []), (.imul, 1, []), (.iload 6, 2, []), (.iadd, 1, []), (.iaload, 1, []), (.istore_n 2, 1, []), (.aload_n 0, 1, []), (.dup, 1, []), (.getfield 51, 3, [9, 5, 0]), (.iconst 1, 1, []), (.iadd, 1, []), (.putfield 51, 3, [9, 5, 0]), (.aload_n 0, 1, []), (.getfield 29, 3, [9, 3, 1]), (.aload_n 0, 1, []), (.getfield 51, 3, [9, 5, 0]), (.iload_n 2, 1, []), (.iastore, 1, []), (.iinc 4 1, 3, []), (.goto (-130), 3, [1])]),
  (160, [(.return_, 1, [])])]
abbrev M_X9_follow : Md := (113, 9, 7, none, P_X9_follow)
theorem ok_X9_follow : k_okM M_X9_follow := by unfold k_okM; decide +kernel
def P_X9_bendOut : CB := [(0, [(.aload_n 0, 1, []), (.getfield 19, 3, [9, 2, 1]), (.iload_n 1, 1, []), (.iconst 1, 1, []), (.invokevirtual 69, 3, [77, 3, 6]), (.aload_n 0, 1, []), (.getfield 19, 3, [9, 2, 1]), (.iconst 0, 1, []), (.invokevirtual 75, 3, [81, 2, 6]), (.aload_n 0, 1, []), (.iload_n 1, 1, []), (.invokevirtual 79, 3, [113, 2, 9]), (.aload_n 0, 1, []), (.getfield 15, 3, [9, 1, 1]), (.iload_n 1, 1, []), (.invokevirtual 82, 3, [54, 2, 3]), (.istore_n 3, 1, []), (.iconst 0, 1, []), (.istore 4, 2, []), (.nop, 0, [1])]),
  (34, [(.iload 4, 2, []), (.aload_n 0, 1, []), (.getfield 51, 3, [9, 5, 0]), (.if_icmp .ge 80, 3, [4]), (.aload_n 0, 1, []), (.getfield 32, 3, [9, 4, 1]), (.iload 4, 2, []), (.iaload, 1, []), (.istore 5, 2, []), (.iload 5, 2, []), (.iconst 4, 1, []), (.if_icmp .ge 59, 3, [3]), (.iload_n 3, 1, []), (.iconst 2, 1, []), (.iadd, 1, []), (.iload_n 2, 1, []), (.if_icmp .gt 52, 3, [3]), (.aload_n 0, 1, []), (.iload_n 1, 1, []), (.aload_n 0, 1, []), (.getfield 29, 3, [9, 3, 1]), (.iload 4, 2, []), (.iaload, 1, []), (.iload 5, 2, []), (.iload 5, 2, []), (.iconst 3, 1, []), (.iadd, 1, []), (.iconst 3, 1, []), (.iand, 1, []), (.invokevirtual 85, 3, [115, 5, 9]), (.ifCond .ne 26, 3, [2]), (.aload_n 0, 1, []), (.iload_n 1, 1, []), (.aload_n 0, 1, []), (.getfield 29, 3, [9, 3, 1]), (.iload 4, 2, []), (.iaload, 1, []), (.iload 5, 2, []), (.iload 5, 2, []), (.iconst 1, 1, []), (.iadd, 1, []), (.iconst 3, 1, []), (.iand, 1, []), (.invokevirtual 85, 3, [115, 5, 9]), (.ifCond .eq 6, 3, [3]), (.nop, 0, [2])]),
  (111, [(.iinc 3 2, 3, []), (.nop, 0, [3])]),
  (114, [(.iinc 4 1, 3, []), (.goto (-83), 3, [1])]),
  (120, [(.iload_n 3, 1, []), (.ireturn, 1, [])])]
abbrev M_X9_bendOut : Md := (114, 9, 6, (some .int), P_X9_bendOut)
theorem ok_X9_bendOut : k_okM M_X9_bendOut := by unfold k_okM; decide +kernel
def P_X9_goBeside : CB := [(0, [(.aload_n 0, 1, []), (.getfield 9, 3, [9, 0, 1]), (.getfield 63, 3, [2, 5, 1]), (.iload_n 2, 1, []), (.bipush 6, 2, []), (.imul, 1, []), (.iload_n 3, 1, []), (.iadd, 1, []), (.iaload, 1, []), (.istore 5, 2, []), (.aload_n 0, 1, []), (.getfield 9, 3, [9, 0, 1]), (.getfield 63, 3, [2, 5, 1]), (.iload_n 2, 1, []), (.bipush 6, 2, []), (.imul, 1, []), (.iload 4, 2, []), (.iadd, 1, []), (.iaload, 1, []), (.istore 6, 2, []), (.iload 5, 2, []), (.iconst (-1), 1, []), (.if_icmp .eq 19, 3, [1]), (.iload 6, 2, []), (.iconst (-1), 1, []), (.if_icmp .eq 13, 3, [1]), (.aload_n 0, 1, []), (.iload_n 1, 1, []), (.iload 6, 2, []), (.invokevirtual 89, 3, [116, 3, 9]), (.ifCond .ne 5, 3, [2]), (.nop, 0, [1])]),
  (55, [(.iconst 0, 1, []), (.ireturn, 1, [])]),
  (57, [(.aload_n 0, 1, []), (.getfield 9, 3, [9, 0, 1]), (.getfield 63, 3, [2, 5, 1]), (.iload 5, 2, []), (.bipush 6, 2, []), (.imul, 1, []), (.iload 4, 2, []), (.iadd, 1, []), (.iaload, 1, []), (.istore 7, 2, []), (.iload 7, 2, []), (.iconst (-1), 1, []), (.if_icmp .eq 13, 3, [3]), (.aload_n 0, 1, []), (.iload_n 1, 1, []), (.iload 7, 2, []), (.invokevirtual 89, 3, [116, 3, 9]), (.ifCond .ne 5, 3, [4]), (.nop, 0, [3])]),
  (91, [(.iconst 0, 1, []), (.ireturn, 1, [])]),
  (93, [(.aload_n 0, 1, []), (.getfield 15, 3, [9, 1, 1]), (.iload_n 1, 1, []), (.iload_n 2, 1, []), (.iload_n 3, 1, []), (.invokevirtual 93, 3, [43, 4, 3]), (.aload_n 0, 1, []), (.getfield 15, 3, [9, 1, 1]), (.iload_n 1, 1, []), (.iload_n 2, 1, []), (.iload 4, 2, []), (.invokevirtual 97, 3, [41, 4, 3]), (.pop, 1, []), (.aload_n 0, 1, []), (.getfield 15, 3, [9, 1, 1]), (.iload_n 1, 1, []), (.iload 6, 2, []), (.iload_n 3, 1, []), (.invokevirtual 97, 3, [41, 4, 3]), (.pop, 1, []), (.aload_n 0, 1, []), (.getfield 15, 3, [9, 1, 1]), (.iload_n 1, 1, []), (.iload 5, 2, []), (.iload 4, 2, []), (.invokevirtual 97, 3, [41, 4, 3]), (.pop, 1, []), (.iconst 1, 1, []), (.ireturn, 1, [])])]
abbrev M_X9_goBeside : Md := (115, 9, 8, (some .boolean), P_X9_goBeside)
theorem ok_X9_goBeside : k_okM M_X9_goBeside := by unfold k_okM; decide +kernel
def P_X9_isOpen : CB := [(0, [(.aload_n 0, 1, []), (.getfield 19, 3, [9, 2, 1]), (.getfield 101, 3, [6, 5, 1]), (.iload_n 2, 1, []), (.iaload, 1, []), (.ifCond .eq 22, 3, [1]), (.aload_n 0, 1, []), (.getfield 15, 3, [9, 1, 1]), (.iload_n 2, 1, []), (.invokevirtual 104, 3, [52, 2, 3]), (.iload_n 1, 1, []), (.ishr, 1, []), (.iconst 1, 1, []), (.iand, 1, []), (.ifCond .ne 7, 3, [1]), (.iconst 1, 1, []), (.goto 4, 3, [2])]),
  (31, [(.iconst 0, 1, []), (.nop, 0, [2])]),
  (32, [(.ireturn, 1, [])])]
abbrev M_X9_isOpen : Md := (116, 9, 3, (some .boolean), P_X9_isOpen)
theorem ok_X9_isOpen : k_okM M_X9_isOpen := by unfold k_okM; decide +kernel
def P_X9_longestBeside : CB := [(0, [(.aload_n 0, 1, []), (.iload_n 1, 1, []), (.invokevirtual 79, 3, [113, 2, 9]), (.iconst 0, 1, []), (.istore_n 3, 1, []), (.iconst 0, 1, []), (.istore 4, 2, []), (.iconst 0, 1, []), (.istore 5, 2, []), (.nop, 0, [1])]),
  (13, [(.iload 5, 2, []), (.aload_n 0, 1, []), (.getfield 51, 3, [9, 5, 0]), (.if_icmp .gt 41, 3, [4]), (.aload_n 0, 1, []), (.aload_n 0, 1, []), (.getfield 29, 3, [9, 3, 1]), (.iload 5, 2, []), (.iaload, 1, []), (.iload_n 2, 1, []), (.invokevirtual 107, 3, [118, 3, 9]), (.ifCond .eq 10, 3, [2]), (.iload 4, 2, []), (.iconst 1, 1, []), (.iadd, 1, []), (.goto 4, 3, [3])]),
  (44, [(.iconst 0, 1, []), (.nop, 0, [3])]),
  (45, [(.istore 4, 2, []), (.iload_n 3, 1, []), (.iload 4, 2, []), (.invokestatic 110, 3, [0]), (.istore_n 3, 1, []), (.iinc 5 1, 3, []), (.goto (-44), 3, [1])]),
  (60, [(.iload_n 3, 1, []), (.ireturn, 1, [])])]
abbrev M_X9_longestBeside : Md := (117, 9, 6, (some .int), P_X9_longestBeside)
theorem ok_X9_longestBeside : k_okM M_X9_longestBeside := by unfold k_okM; decide +kernel
def P_X9_touches : CB := [(0, [(.iconst 0, 1, []), (.istore_n 3, 1, []), (.nop, 0, [1])]),
  (2, [(.iload_n 3, 1, []), (.iconst 4, 1, []), (.if_icmp .ge 49, 3, [3]), (.aload_n 0, 1, []), (.getfield 9, 3, [9, 0, 1]), (.getfield 63, 3, [2, 5, 1]), (.iload_n 1, 1, []), (.bipush 6, 2, []), (.imul, 1, []), (.iload_n 3, 1, []), (.iadd, 1, []), (.iaload, 1, []), (.istore 4, 2, []), (.iload 4, 2, []), (.iconst (-1), 1, []), (.if_icmp .eq 21, 3, [2]), (.aload_n 0, 1, []), (.getfield 15, 3, [9, 1, 1]), (.iload 4, 2, []), (.invokevirtual 104, 3, [52, 2, 3]), (.iload_n 2, 1, []), (.ishr, 1, []), (.iconst 1, 1, []), (.iand, 1, []), (.ifCond .eq 5, 3, [2]), (.iconst 1, 1, []), (.ireturn, 1, [])]),
  (47, [(.iinc 3 1, 3, []), (.goto (-48), 3, [1])]),
  (53, [(.iconst 0, 1, []), (.ireturn, 1, [])])]
abbrev M_X9_touches : Md := (118, 9, 5, (some .boolean), P_X9_touches)
theorem ok_X9_touches : k_okM M_X9_touches := by unfold k_okM; decide +kernel
def P_X10_tryWholly : CB := [(0, [(.aload_n 0, 1, []), (.getfield 21, 3, [10, 0, 1]), (.getfield 33, 3, [2, 4, 0]), (.bipush 24, 2, []), (.if_icmp .gt 11, 3, [1]), (.iload_n 1, 1, []), (.invokestatic 63, 3, [316, 1]), (.iconst 3, 1, []), (.if_icmp .le 5, 3, [2]), (.nop, 0, [1])]),
  (20, [(.iconst (-1), 1, []), (.ireturn, 1, [])]),
  (22, [(.aload_n 0, 1, []), (.iconst 0, 1, []), (.putfield 69, 3, [10, 6, 0]), (.iconst 0, 1, []), (.istore_n 2, 1, []), (.nop, 0, [3])]),
  (29, [(.iload_n 2, 1, []), (.aload_n 0, 1, []), (.getfield 25, 3, [10, 1, 1]), (.getfield 72, 3, [3, 14, 0]), (.if_icmp .ge 78, 3, [7]), (.iload_n 1, 1, []), (.iload_n 2, 1, []), (.ishr, 1, []), (.iconst 1, 1, []), (.iand, 1, []), (.ifCond .eq 64, 3, [6]), (.aload_n 0, 1, []), (.getfield 25, 3, [10, 1, 1]), (.getfield 75, 3, [3, 4, 1]), (.iload_n 2, 1, []), (.iaload, 1, []), (.iconst 2, 1, []), (.if_icmp .ne 14, 3, [4]), (.aload_n 0, 1, []), (.getfield 25, 3, [10, 1, 1]), (.iload_n 2, 1, []), (.invokevirtual 78, 3, [49, 2, 3]), (.ifCond .eq 5, 3, [5]), (.nop, 0, [4])]),
  (72, [(.iconst (-1), 1, []), (.ireturn, 1, [])]),
  (74, [(.aload_n 0, 1, []), (.getfield 11, 3, [10, 3, 1]), (.aload_n 0, 1, []), (.getfield 69, 3, [10, 6, 0]), (.iload_n 2, 1, []), (.iastore, 1, []), (.aload_n 0, 1, []), (.getfield 15, 3, [10, 4, 1]), (.aload_n 0, 1, []), (.getfield 69, 3, [10, 6, 0]), (.aload_n 0, 1, []), (.iload_n 2, 1, []), (.iload_n 1, 1, []), (.invokevirtual 82, 3, [121, 3, 10]), (.iastore, 1, []), (.aload_n 0, 1, []), (.dup, 1, []), (.getfield 69, 3, [10, 6, 0]), (.iconst 1, 1, []), (.iadd, 1, []), (.putfield 69, 3, [10, 6, 0]), (.nop, 0, [6])]),
  (109, [(.iinc 2 1, 3, []), (.goto (-83), 3, [3])]),
  (115, [(.aload_n 0, 1, []), (.iconst 0, 1, []), (.iconst 0, 1, []), (.invokevirtual 86, 3, [124, 3, 10]), (.ifCond .eq 16, 3, [8]), (.aload_n 0, 1, []), (.iconst 0, 1, []), (.iconst 0, 1, []), (.invokevirtual 90, 3, [122, 3, 10]), (.ifCond .eq 7, 3, [8]), (.iconst 1, 1, []), (.goto 4, 3, [9])]),
  (137, [(.iconst 0, 1, []), (.nop, 0, [9])]),
  (138, [(.ireturn, 1, [])])]
abbrev M_X10_tryWholly : Md := (120, 10, 3, (some .int), P_X10_tryWholly)
theorem ok_X10_tryWholly : k_okM M_X10_tryWholly := by unfold k_okM; decide +kernel
def P_X10_openCells : CB := [(0, [(.aload_n 0, 1, []), (.getfield 29, 3, [10, 2, 1]), (.iload_n 1, 1, []), (.iconst 0, 1, []), (.invokevirtual 93, 3, [77, 3, 6]), (.aload_n 0, 1, []), (.getfield 29, 3, [10, 2, 1]), (.iload_n 2, 1, []), (.invokevirtual 99, 3, [81, 2, 6]), (.iconst 0, 1, []), (.istore_n 3, 1, []), (.iconst 0, 1, []), (.istore 4, 2, []), (.nop, 0, [1])]),
  (22, [(.iload 4, 2, []), (.aload_n 0, 1, []), (.getfield 21, 3, [10, 0, 1]), (.getfield 33, 3, [2, 4, 0]), (.if_icmp .ge 25, 3, [2]), (.iload_n 3, 1, []), (.aload_n 0, 1, []), (.getfield 29, 3, [10, 2, 1]), (.getfield 103, 3, [6, 5, 1]), (.iload 4, 2, []), (.iaload, 1, []), (.iload 4, 2, []), (.ishl, 1, []), (.ior, 1, []), (.istore_n 3, 1, []), (.iinc 4 1, 3, []), (.goto (-31), 3, [1])]),
  (56, [(.iload_n 3, 1, []), (.ireturn, 1, [])])]
abbrev M_X10_openCells : Md := (121, 10, 5, (some .int), P_X10_openCells)
theorem ok_X10_openCells : k_okM M_X10_openCells := by unfold k_okM; decide +kernel
end
section
/-! code as data (written by wip/whole/gencode.py) -/
def P_X10_findWays : CB := [(0, [(.iload_n 1, 1, []), (.aload_n 0, 1, []), (.getfield 69, 3, [10, 6, 0]), (.iconst 1, 1, []), (.isub, 1, []), (.if_icmp .lt 5, 3, [1]), (.iconst 1, 1, []), (.ireturn, 1, [])]),
  (12, [(.aload_n 0, 1, []), (.iload_n 1, 1, []), (.iload_n 1, 1, []), (.invokevirtual 106, 3, [125, 3, 10]), (.istore_n 3, 1, []), (.iconst 1, 1, []), (.aload_n 0, 1, []), (.getfield 25, 3, [10, 1, 1]), (.aload_n 0, 1, []), (.getfield 11, 3, [10, 3, 1]), (.iload_n 1, 1, []), (.iaload, 1, []), (.iconst 0, 1, []), (.invokevirtual 109, 3, [36, 3, 3]), (.ishl, 1, []), (.istore 4, 2, []), (.aload_n 0, 1, []), (.getfield 18, 3, [10, 5, 1]), (.iload_n 1, 1, []), (.iconst 0, 1, []), (.iastore, 1, []), (.aload_n 0, 1, []), (.iload_n 1, 1, []), (.iload 4, 2, []), (.iload_n 3, 1, []), (.iload_n 2, 1, []), (.iconst 1, 1, []), (.iadd, 1, []), (.invokevirtual 112, 3, [123, 5, 10]), (.ireturn, 1, [])])]
abbrev M_X10_findWays : Md := (122, 10, 5, (some .boolean), P_X10_findWays)
theorem ok_X10_findWays : k_okM M_X10_findWays := by unfold k_okM; decide +kernel
def P_X10_extend : CB := [(0, [(.iload 4, 2, []), (.bipush 40, 2, []), (.if_icmp .le 5, 3, [1]), (.iconst 0, 1, []), (.ireturn, 1, [])]),
  (9, [(.aload_n 0, 1, []), (.getfield 18, 3, [10, 5, 1]), (.iload_n 1, 1, []), (.iaload, 1, []), (.istore 5, 2, []), (.aload_n 0, 1, []), (.getfield 18, 3, [10, 5, 1]), (.iload_n 1, 1, []), (.iload 5, 2, []), (.iload_n 2, 1, []), (.ior, 1, []), (.iastore, 1, []), (.iconst 1, 1, []), (.aload_n 0, 1, []), (.getfield 25, 3, [10, 1, 1]), (.aload_n 0, 1, []), (.getfield 11, 3, [10, 3, 1]), (.iload_n 1, 1, []), (.iaload, 1, []), (.iconst 1, 1, []), (.invokevirtual 109, 3, [36, 3, 3]), (.ishl, 1, []), (.istore 6, 2, []), (.aload_n 0, 1, []), (.iload_n 2, 1, []), (.invokevirtual 116, 3, [127, 2, 10]), (.istore 7, 2, []), (.iconst 0, 1, []), (.istore 8, 2, []), (.iload 7, 2, []), (.iload 6, 2, []), (.iand, 1, []), (.ifCond .eq 51, 3, [4]), (.aload_n 0, 1, []), (.getfield 18, 3, [10, 5, 1]), (.iload_n 1, 1, []), (.dup2, 1, []), (.iaload, 1, []), (.iload 6, 2, []), (.ior, 1, []), (.iastore, 1, []), (.aload_n 0, 1, []), (.iload_n 1, 1, []), (.iconst 1, 1, []), (.iadd, 1, []), (.iload_n 1, 1, []), (.iconst 1, 1, []), (.iadd, 1, []), (.invokevirtual 86, 3, [124, 3, 10]), (.ifCond .eq 21, 3, [2]), (.aload_n 0, 1, []), (.iload_n 1, 1, []), (.iconst 1, 1, []), (.iadd, 1, []), (.iload 4, 2, []), (.iconst 1, 1, []), (.iadd, 1, []), (.invokevirtual 90, 3, [122, 3, 10]), (.ifCond .eq 7, 3, [2]), (.iconst 1, 1, []), (.goto 4, 3, [3])]),
  (105, [(.iconst 0, 1, []), (.nop, 0, [3])]),
  (106, [(.istore 8, 2, []), (.goto 101, 3, [7])]),
  (111, [(.aload_n 0, 1, []), (.iload_n 1, 1, []), (.iconst 1, 1, []), (.iadd, 1, []), (.iload_n 1, 1, []), (.iconst 1, 1, []), (.iadd, 1, []), (.invokevirtual 86, 3, [124, 3, 10]), (.ifCond .eq 88, 3, [7]), (.iload_n 3, 1, []), (.iload 7, 2, []), (.iconst (-1), 1, []), (.ixor, 1, []), (.iand, 1, []), (.iload_n 2, 1, []), (.iconst (-1), 1, []), (.ixor, 1, []), (.iand, 1, []), (.istore 9, 2, []), (.iconst 0, 1, []), (.istore 10, 2, []), (.nop, 0, [5])]),
  (139, [(.iload 10, 2, []), (.aload_n 0, 1, []), (.getfield 21, 3, [10, 0, 1]), (.getfield 33, 3, [2, 4, 0]), (.if_icmp .ge 61, 3, [7]), (.iload 8, 2, []), (.ifCond .ne 56, 3, [7]), (.iconst 1, 1, []), (.iload 10, 2, []), (.ishl, 1, []), (.istore 11, 2, []), (.iload 7, 2, []), (.iload_n 3, 1, []), (.iand, 1, []), (.iload 11, 2, []), (.iand, 1, []), (.ifCond .eq 34, 3, [6]), (.aload_n 0, 1, []), (.iload 11, 2, []), (.iload 6, 2, []), (.iload 9, 2, []), (.iload 11, 2, []), (.ior, 1, []), (.invokevirtual 119, 3, [128, 4, 10]), (.ifCond .eq 18, 3, [6]), (.aload_n 0, 1, []), (.iload_n 1, 1, []), (.iload 11, 2, []), (.iload 9, 2, []), (.iload 4, 2, []), (.iconst 1, 1, []), (.iadd, 1, []), (.invokevirtual 112, 3, [123, 5, 10]), (.istore 8, 2, []), (.nop, 0, [6])]),
  (203, [(.iinc 10 1, 3, []), (.goto (-67), 3, [5])]),
  (209, [(.aload_n 0, 1, []), (.getfield 18, 3, [10, 5, 1]), (.iload_n 1, 1, []), (.iload 5, 2, []), (.iastore, 1, []), (.iload 8, 2, []), (.ireturn, 1, [])])]
abbrev M_X10_extend : Md := (123, 10, 12, (some .boolean), P_X10_extend)
theorem ok_X10_extend : k_okM M_X10_extend := by unfold k_okM; decide +kernel
def P_X10_laterCanJoin : CB := [(0, [(.iload_n 1, 1, []), (.istore_n 3, 1, []), (.nop, 0, [1])]),
  (2, [(.iload_n 3, 1, []), (.aload_n 0, 1, []), (.getfield 69, 3, [10, 6, 0]), (.if_icmp .ge 64, 3, [3]), (.iconst 1, 1, []), (.aload_n 0, 1, []), (.getfield 25, 3, [10, 1, 1]), (.aload_n 0, 1, []), (.getfield 11, 3, [10, 3, 1]), (.iload_n 3, 1, []), (.iaload, 1, []), (.iconst 0, 1, []), (.invokevirtual 109, 3, [36, 3, 3]), (.ishl, 1, []), (.istore 4, 2, []), (.iconst 1, 1, []), (.aload_n 0, 1, []), (.getfield 25, 3, [10, 1, 1]), (.aload_n 0, 1, []), (.getfield 11, 3, [10, 3, 1]), (.iload_n 3, 1, []), (.iaload, 1, []), (.iconst 1, 1, []), (.invokevirtual 109, 3, [36, 3, 3]), (.ishl, 1, []), (.istore 5, 2, []), (.aload_n 0, 1, []), (.iload 4, 2, []), (.iload 5, 2, []), (.aload_n 0, 1, []), (.iload_n 3, 1, []), (.iload_n 2, 1, []), (.invokevirtual 106, 3, [125, 3, 10]), (.invokevirtual 119, 3, [128, 4, 10]), (.ifCond .ne 5, 3, [2]), (.iconst 0, 1, []), (.ireturn, 1, [])]),
  (65, [(.iinc 3 1, 3, []), (.goto (-66), 3, [1])]),
  (71, [(.iconst 1, 1, []), (.ireturn, 1, [])])]
abbrev M_X10_laterCanJoin : Md := (124, 10, 6, (some .boolean), P_X10_laterCanJoin)
theorem ok_X10_laterCanJoin : k_okM M_X10_laterCanJoin := by unfold k_okM; decide +kernel
def P_X10_openAt : CB := [(0, [(.aload_n 0, 1, []), (.getfield 15, 3, [10, 4, 1]), (.iload_n 1, 1, []), (.iaload, 1, []), (.istore_n 3, 1, []), (.aload_n 0, 1, []), (.getfield 25, 3, [10, 1, 1]), (.aload_n 0, 1, []), (.getfield 11, 3, [10, 3, 1]), (.iload_n 1, 1, []), (.iaload, 1, []), (.iconst 3, 1, []), (.invokevirtual 123, 3, [34, 3, 3]), (.istore 4, 2, []), (.iconst 0, 1, []), (.istore 5, 2, []), (.nop, 0, [1])]),
  (26, [(.iload 5, 2, []), (.iload_n 2, 1, []), (.if_icmp .ge 54, 3, [2]), (.iload 5, 2, []), (.aload_n 0, 1, []), (.getfield 69, 3, [10, 6, 0]), (.if_icmp .ge 45, 3, [2]), (.iload_n 3, 1, []), (.aload_n 0, 1, []), (.aload_n 0, 1, []), (.getfield 18, 3, [10, 5, 1]), (.iload 5, 2, []), (.iaload, 1, []), (.iload 4, 2, []), (.aload_n 0, 1, []), (.getfield 25, 3, [10, 1, 1]), (.aload_n 0, 1, []), (.getfield 11, 3, [10, 3, 1]), (.iload 5, 2, []), (.iaload, 1, []), (.iconst 3, 1, []), (.invokevirtual 123, 3, [34, 3, 3]), (.invokestatic 126, 3, [0]), (.invokevirtual 131, 3, [126, 3, 10]), (.iconst (-1), 1, []), (.ixor, 1, []), (.iand, 1, []), (.istore_n 3, 1, []), (.iinc 5 1, 3, []), (.goto (-54), 3, [1])]),
  (83, [(.iconst 1, 1, []), (.aload_n 0, 1, []), (.getfield 25, 3, [10, 1, 1]), (.aload_n 0, 1, []), (.getfield 11, 3, [10, 3, 1]), (.iload_n 1, 1, []), (.iaload, 1, []), (.iconst 0, 1, []), (.invokevirtual 109, 3, [36, 3, 3]), (.ishl, 1, []), (.iconst 1, 1, []), (.aload_n 0, 1, []), (.getfield 25, 3, [10, 1, 1]), (.aload_n 0, 1, []), (.getfield 11, 3, [10, 3, 1]), (.iload_n 1, 1, []), (.iaload, 1, []), (.iconst 1, 1, []), (.invokevirtual 109, 3, [36, 3, 3]), (.ishl, 1, []), (.ior, 1, []), (.istore 5, 2, []), (.iload_n 3, 1, []), (.iload 5, 2, []), (.ior, 1, []), (.ireturn, 1, [])])]
abbrev M_X10_openAt : Md := (125, 10, 6, (some .int), P_X10_openAt)
theorem ok_X10_openAt : k_okM M_X10_openAt := by unfold k_okM; decide +kernel
def P_X10_widened : CB := [(0, [(.iload_n 1, 1, []), (.istore_n 3, 1, []), (.iconst 0, 1, []), (.istore 4, 2, []), (.nop, 0, [1])]),
  (5, [(.iload 4, 2, []), (.iload_n 2, 1, []), (.if_icmp .ge 29, 3, [2]), (.iload_n 3, 1, []), (.iload_n 3, 1, []), (.aload_n 0, 1, []), (.getfield 45, 3, [10, 8, 0]), (.iand, 1, []), (.iconst 1, 1, []), (.ishl, 1, []), (.iload_n 3, 1, []), (.aload_n 0, 1, []), (.getfield 39, 3, [10, 7, 0]), (.iand, 1, []), (.iconst 1, 1, []), (.iushr, 1, []), (.ior, 1, []), (.ior, 1, []), (.istore_n 3, 1, []), (.iinc 4 1, 3, []), (.goto (-29), 3, [1])]),
  (37, [(.iconst 0, 1, []), (.istore 4, 2, []), (.nop, 0, [3])]),
  (40, [(.iload 4, 2, []), (.iload_n 2, 1, []), (.if_icmp .ge 41, 3, [4]), (.iload_n 3, 1, []), (.iload_n 3, 1, []), (.aload_n 0, 1, []), (.getfield 57, 3, [10, 10, 0]), (.iand, 1, []), (.aload_n 0, 1, []), (.getfield 21, 3, [10, 0, 1]), (.getfield 48, 3, [2, 0, 0]), (.ishl, 1, []), (.iload_n 3, 1, []), (.aload_n 0, 1, []), (.getfield 51, 3, [10, 9, 0]), (.iand, 1, []), (.aload_n 0, 1, []), (.getfield 21, 3, [10, 0, 1]), (.getfield 48, 3, [2, 0, 0]), (.iushr, 1, []), (.ior, 1, []), (.ior, 1, []), (.istore_n 3, 1, []), (.iinc 4 1, 3, []), (.goto (-41), 3, [3])]),
  (84, [(.iload_n 3, 1, []), (.ireturn, 1, [])])]
abbrev M_X10_widened : Md := (126, 10, 5, (some .int), P_X10_widened)
theorem ok_X10_widened : k_okM M_X10_widened := by unfold k_okM; decide +kernel
def P_X10_oneMove : CB := [(0, [(.iload_n 1, 1, []), (.aload_n 0, 1, []), (.getfield 45, 3, [10, 8, 0]), (.iand, 1, []), (.iconst 1, 1, []), (.ishl, 1, []), (.iload_n 1, 1, []), (.aload_n 0, 1, []), (.getfield 39, 3, [10, 7, 0]), (.iand, 1, []), (.iconst 1, 1, []), (.iushr, 1, []), (.ior, 1, []), (.istore_n 2, 1, []), (.iload_n 2, 1, []), (.iload_n 1, 1, []), (.aload_n 0, 1, []), (.getfield 57, 3, [10, 10, 0]), (.iand, 1, []), (.aload_n 0, 1, []), (.getfield 21, 3, [10, 0, 1]), (.getfield 48, 3, [2, 0, 0]), (.ishl, 1, []), (.iload_n 1, 1, []), (.aload_n 0, 1, []), (.getfield 51, 3, [10, 9, 0]), (.iand, 1, []), (.aload_n 0, 1, []), (.getfield 21, 3, [10, 0, 1]), (.getfield 48, 3, [2, 0, 0]), (.iushr, 1, []), (.ior, 1, []), (.ior, 1, []), (.istore_n 2, 1, []), (.iload_n 2, 1, []), (.iload_n 1, 1, []), (.aload_n 0, 1, []), (.getfield 21, 3, [10, 0, 1]), (.getfield 134, 3, [2, 3, 0]), (.ishl, 1, []), (.ior, 1, []), (.iload_n 1, 1, []), (.aload_n 0, 1, []), (.getfield 21, 3, [10, 0, 1]), (.getfield 134, 3, [2, 3, 0]), (.iushr, 1, []), (.ior, 1, []), (.ireturn, 1, [])])]
abbrev M_X10_oneMove : Md := (127, 10, 3, (some .int), P_X10_oneMove)
theorem ok_X10_oneMove : k_okM M_X10_oneMove := by unfold k_okM; decide +kernel
def P_X10_canReach : CB := [(0, [(.iload_n 1, 1, []), (.istore 4, 2, []), (.iconst 0, 1, []), (.istore 5, 2, []), (.nop, 0, [1])]),
  (6, [(.iload 5, 2, []), (.bipush 24, 2, []), (.if_icmp .ge 44, 3, [4]), (.iload 4, 2, []), (.aload_n 0, 1, []), (.iload 4, 2, []), (.invokevirtual 116, 3, [127, 2, 10]), (.iload_n 3, 1, []), (.iand, 1, []), (.ior, 1, []), (.istore 6, 2, []), (.iload 6, 2, []), (.iload_n 2, 1, []), (.iand, 1, []), (.ifCond .eq 5, 3, [2]), (.iconst 1, 1, []), (.ireturn, 1, [])]),
  (35, [(.iload 6, 2, []), (.iload 4, 2, []), (.if_icmp .ne 5, 3, [3]), (.iconst 0, 1, []), (.ireturn, 1, [])]),
  (44, [(.iload 6, 2, []), (.istore 4, 2, []), (.iinc 5 1, 3, []), (.goto (-45), 3, [1])]),
  (54, [(.iconst 0, 1, []), (.ireturn, 1, [])])]
abbrev M_X10_canReach : Md := (128, 10, 7, (some .boolean), P_X10_canReach)
theorem ok_X10_canReach : k_okM M_X10_canReach := by unfold k_okM; decide +kernel
end
section
/-! code as data (written by wip/whole/gencode.py) -/
def P_X11_feed : CB := [(0, [(.iload_n 1, 1, []), (.invokestatic 106, 3, [102, 1]), (.iload_n 2, 1, []), (.invokestatic 106, 3, [102, 1]), (.iadd, 1, []), (.iload_n 3, 1, []), (.invokestatic 106, 3, [102, 1]), (.iadd, 1, []), (.iload 4, 2, []), (.invokestatic 106, 3, [102, 1]), (.iadd, 1, []), (.iload 5, 2, []), (.invokestatic 106, 3, [102, 1]), (.iadd, 1, []), (.istore 6, 2, []), (.aload_n 0, 1, []), (.getfield 31, 3, [11, 1, 1]), (.getfield 110, 3, [8, 3, 0]), (.iload 6, 2, []), (.iadd, 1, []), (.bipush 80, 2, []), (.if_icmp .le 5, 3, [1]), (.iconst (-1), 1, []), (.ireturn, 1, [])]),
  (45, [(.aload_n 0, 1, []), (.getfield 31, 3, [11, 1, 1]), (.iload_n 1, 1, []), (.invokevirtual 113, 3, [103, 2, 8]), (.aload_n 0, 1, []), (.getfield 31, 3, [11, 1, 1]), (.iload_n 2, 1, []), (.invokevirtual 113, 3, [103, 2, 8]), (.aload_n 0, 1, []), (.getfield 31, 3, [11, 1, 1]), (.iload_n 3, 1, []), (.invokevirtual 113, 3, [103, 2, 8]), (.aload_n 0, 1, []), (.getfield 31, 3, [11, 1, 1]), (.iload 4, 2, []), (.invokevirtual 113, 3, [103, 2, 8]), (.aload_n 0, 1, []), (.getfield 31, 3, [11, 1, 1]), (.iload 5, 2, []), (.invokevirtual 113, 3, [103, 2, 8]), (.aload_n 0, 1, []), (.getfield 31, 3, [11, 1, 1]), (.getfield 110, 3, [8, 3, 0]), (.ireturn, 1, [])])]
abbrev M_X11_feed : Md := (130, 11, 7, (some .int), P_X11_feed)
theorem ok_X11_feed : k_okM M_X11_feed := by unfold k_okM; decide +kernel
def P_X11_end : CB := [(0, [(.iload_n 1, 1, []), (.ifCond .lt 14, 3, [1]), (.iload_n 1, 1, []), (.aload_n 0, 1, []), (.getfield 31, 3, [11, 1, 1]), (.getfield 110, 3, [8, 3, 0]), (.if_icmp .le 5, 3, [2]), (.nop, 0, [1])]),
  (15, [(.iconst 0, 1, []), (.ireturn, 1, [])]),
  (17, [(.aload_n 0, 1, []), (.getfield 31, 3, [11, 1, 1]), (.iload_n 1, 1, []), (.putfield 110, 3, [8, 3, 0]), (.iconst 1, 1, []), (.ireturn, 1, [])])]
abbrev M_X11_end : Md := (131, 11, 2, (some .boolean), P_X11_end)
theorem ok_X11_end : k_okM M_X11_end := by unfold k_okM; decide +kernel
def P_X11_fault : CB := [(0, [(.aload_n 0, 1, []), (.getfield 31, 3, [11, 1, 1]), (.invokevirtual 116, 3, [104, 1, 8]), (.ireturn, 1, [])])]
abbrev M_X11_fault : Md := (132, 11, 1, (some .int), P_X11_fault)
theorem ok_X11_fault : k_okM M_X11_fault := by unfold k_okM; decide +kernel
def P_X11_sort : CB := [(0, [(.aload_n 0, 1, []), (.getfield 40, 3, [11, 2, 1]), (.getfield 120, 3, [3, 13, 0]), (.bipush 6, 2, []), (.if_icmp .ge 14, 3, [1]), (.aload_n 0, 1, []), (.getfield 31, 3, [11, 1, 1]), (.invokevirtual 116, 3, [104, 1, 8]), (.iconst (-1), 1, []), (.if_icmp .eq 5, 3, [2]), (.nop, 0, [1])]),
  (23, [(.iconst (-1), 1, []), (.ireturn, 1, [])]),
  (25, [(.aload_n 0, 1, []), (.getfield 31, 3, [11, 1, 1]), (.iconst 0, 1, []), (.putfield 110, 3, [8, 3, 0]), (.aload_n 0, 1, []), (.getfield 40, 3, [11, 2, 1]), (.aload_n 0, 1, []), (.getfield 31, 3, [11, 1, 1]), (.getfield 123, 3, [8, 2, 1]), (.invokevirtual 127, 3, [32, 2, 3]), (.ireturn, 1, [])])]
abbrev M_X11_sort : Md := (133, 11, 1, (some .int), P_X11_sort)
theorem ok_X11_sort : k_okM M_X11_sort := by unfold k_okM; decide +kernel
def P_X11_net : CB := [(0, [(.iload_n 1, 1, []), (.ifCond .lt 26, 3, [1]), (.iload_n 1, 1, []), (.aload_n 0, 1, []), (.getfield 40, 3, [11, 2, 1]), (.getfield 120, 3, [3, 13, 0]), (.if_icmp .ge 15, 3, [1]), (.aload_n 0, 1, []), (.getfield 40, 3, [11, 2, 1]), (.getfield 141, 3, [3, 14, 0]), (.bipush 8, 2, []), (.if_icmp .lt 5, 3, [2]), (.nop, 0, [1])]),
  (27, [(.iconst (-1), 1, []), (.ireturn, 1, [])]),
  (29, [(.aload_n 0, 1, []), (.getfield 40, 3, [11, 2, 1]), (.iload_n 1, 1, []), (.invokevirtual 144, 3, [33, 2, 3]), (.ireturn, 1, [])])]
abbrev M_X11_net : Md := (135, 11, 2, (some .int), P_X11_net)
theorem ok_X11_net : k_okM M_X11_net := by unfold k_okM; decide +kernel
def P_X11_pin : CB := [(0, [(.aload_n 0, 1, []), (.getfield 18, 3, [11, 0, 1]), (.iload_n 2, 1, []), (.iload_n 3, 1, []), (.iload 4, 2, []), (.invokevirtual 147, 3, [29, 4, 2]), (.istore 5, 2, []), (.aload_n 0, 1, []), (.iload_n 1, 1, []), (.invokevirtual 150, 3, [173, 2, 11]), (.ifCond .eq 34, 3, [1]), (.iload 5, 2, []), (.iconst (-1), 1, []), (.if_icmp .eq 28, 3, [1]), (.aload_n 0, 1, []), (.getfield 40, 3, [11, 2, 1]), (.iload 5, 2, []), (.invokevirtual 154, 3, [35, 2, 3]), (.ifCond .ne 16, 3, [1]), (.aload_n 0, 1, []), (.getfield 40, 3, [11, 2, 1]), (.getfield 157, 3, [3, 4, 1]), (.iload_n 1, 1, []), (.iaload, 1, []), (.iconst 4, 1, []), (.if_icmp .lt 5, 3, [2]), (.nop, 0, [1])]),
  (52, [(.iconst (-1), 1, []), (.ireturn, 1, [])]),
  (54, [(.aload_n 0, 1, []), (.getfield 40, 3, [11, 2, 1]), (.iload_n 1, 1, []), (.iload 5, 2, []), (.invokevirtual 160, 3, [37, 3, 3]), (.ireturn, 1, [])])]
abbrev M_X11_pin : Md := (136, 11, 6, (some .int), P_X11_pin)
theorem ok_X11_pin : k_okM M_X11_pin := by unfold k_okM; decide +kernel
def P_X11_keep : CB := [(0, [(.aload_n 0, 1, []), (.getfield 18, 3, [11, 0, 1]), (.iload_n 1, 1, []), (.iload_n 2, 1, []), (.iconst 0, 1, []), (.invokevirtual 147, 3, [29, 4, 2]), (.iconst (-1), 1, []), (.if_icmp .eq 29, 3, [1]), (.aload_n 0, 1, []), (.getfield 18, 3, [11, 0, 1]), (.iload_n 3, 1, []), (.iload 4, 2, []), (.iconst 0, 1, []), (.invokevirtual 147, 3, [29, 4, 2]), (.iconst (-1), 1, []), (.if_icmp .eq 14, 3, [1]), (.iload_n 3, 1, []), (.iload_n 1, 1, []), (.if_icmp .lt 9, 3, [1]), (.iload 4, 2, []), (.iload_n 2, 1, []), (.if_icmp .ge 5, 3, [2]), (.nop, 0, [1])]),
  (40, [(.iconst 0, 1, []), (.ireturn, 1, [])]),
  (42, [(.iload 5, 2, []), (.ifCond .eq 18, 3, [3]), (.iload 5, 2, []), (.aload_n 0, 1, []), (.getfield 18, 3, [11, 0, 1]), (.invokevirtual 164, 3, [30, 1, 2]), (.iconst (-1), 1, []), (.ixor, 1, []), (.iand, 1, []), (.ifCond .eq 5, 3, [4]), (.nop, 0, [3])]),
  (62, [(.iconst 0, 1, []), (.ireturn, 1, [])]),
  (64, [(.iconst 0, 1, []), (.istore 6, 2, []), (.nop, 0, [5])]),
  (67, [(.iload 6, 2, []), (.aload_n 0, 1, []), (.getfield 18, 3, [11, 0, 1]), (.getfield 24, 3, [2, 2, 0]), (.if_icmp .ge 33, 3, [7]), (.iload 5, 2, []), (.iload 6, 2, []), (.ishr, 1, []), (.iconst 1, 1, []), (.iand, 1, []), (.ifCond .eq 17, 3, [6]), (.aload_n 0, 1, []), (.getfield 40, 3, [11, 2, 1]), (.iload_n 1, 1, []), (.iload_n 2, 1, []), (.iload_n 3, 1, []), (.iload 4, 2, []), (.iload 6, 2, []), (.invokevirtual 167, 3, [39, 6, 3]), (.nop, 0, [6])]),
  (103, [(.iinc 6 1, 3, []), (.goto (-39), 3, [5])]),
  (109, [(.iconst 1, 1, []), (.ireturn, 1, [])])]
abbrev M_X11_keep : Md := (137, 11, 7, (some .boolean), P_X11_keep)
theorem ok_X11_keep : k_okM M_X11_keep := by unfold k_okM; decide +kernel
def P_X11_wire : CB := [(0, [(.aload_n 0, 1, []), (.getfield 18, 3, [11, 0, 1]), (.iload_n 2, 1, []), (.iload_n 3, 1, []), (.iload 6, 2, []), (.invokevirtual 147, 3, [29, 4, 2]), (.istore 7, 2, []), (.aload_n 0, 1, []), (.getfield 18, 3, [11, 0, 1]), (.iload 4, 2, []), (.iload 5, 2, []), (.iload 6, 2, []), (.invokevirtual 147, 3, [29, 4, 2]), (.istore 8, 2, []), (.aload_n 0, 1, []), (.iload_n 1, 1, []), (.invokevirtual 150, 3, [173, 2, 11]), (.ifCond .eq 34, 3, [1]), (.iload 7, 2, []), (.iconst (-1), 1, []), (.if_icmp .eq 28, 3, [1]), (.iload 8, 2, []), (.iconst (-1), 1, []), (.if_icmp .eq 22, 3, [1]), (.iload 7, 2, []), (.iload 8, 2, []), (.if_icmp .eq 15, 3, [1]), (.iload_n 2, 1, []), (.iload 4, 2, []), (.if_icmp .eq 11, 3, [2]), (.iload_n 3, 1, []), (.iload 5, 2, []), (.if_icmp .eq 5, 3, [2]), (.nop, 0, [1])]),
  (67, [(.iconst 0, 1, []), (.ireturn, 1, [])]),
  (69, [(.iload_n 2, 1, []), (.iload 4, 2, []), (.if_icmp .ne 17, 3, [4]), (.iload 5, 2, []), (.iload_n 3, 1, []), (.if_icmp .ge 7, 3, [3]), (.iconst 0, 1, []), (.goto 18, 3, [6])]),
  (85, [(.iconst 2, 1, []), (.goto 14, 3, [6])]),
  (89, [(.iload 4, 2, []), (.iload_n 2, 1, []), (.if_icmp .le 7, 3, [5]), (.iconst 1, 1, []), (.goto 4, 3, [6])]),
  (99, [(.iconst 3, 1, []), (.nop, 0, [6])]),
  (100, [(.istore 9, 2, []), (.aload_n 0, 1, []), (.getfield 40, 3, [11, 2, 1]), (.iload_n 1, 1, []), (.iload 7, 2, []), (.iload 9, 2, []), (.iload 4, 2, []), (.iload_n 2, 1, []), (.isub, 1, []), (.invokestatic 171, 3, [2]), (.iload 5, 2, []), (.iload_n 3, 1, []), (.isub, 1, []), (.invokestatic 171, 3, [2]), (.iadd, 1, []), (.invokevirtual 176, 3, [40, 5, 3]), (.iconst 1, 1, []), (.ireturn, 1, [])])]
abbrev M_X11_wire : Md := (138, 11, 10, (some .boolean), P_X11_wire)
theorem ok_X11_wire : k_okM M_X11_wire := by unfold k_okM; decide +kernel
def P_X11_hole : CB := [(0, [(.aload_n 0, 1, []), (.getfield 18, 3, [11, 0, 1]), (.iload_n 2, 1, []), (.iload_n 3, 1, []), (.iload 4, 2, []), (.invokevirtual 147, 3, [29, 4, 2]), (.istore 5, 2, []), (.aload_n 0, 1, []), (.iload_n 1, 1, []), (.invokevirtual 150, 3, [173, 2, 11]), (.ifCond .eq 23, 3, [1]), (.iload 5, 2, []), (.iconst (-1), 1, []), (.if_icmp .eq 17, 3, [1]), (.iload 4, 2, []), (.iconst 1, 1, []), (.iadd, 1, []), (.aload_n 0, 1, []), (.getfield 18, 3, [11, 0, 1]), (.getfield 24, 3, [2, 2, 0]), (.if_icmp .lt 5, 3, [2]), (.nop, 0, [1])]),
  (41, [(.iconst 0, 1, []), (.ireturn, 1, [])]),
  (43, [(.aload_n 0, 1, []), (.getfield 40, 3, [11, 2, 1]), (.iload_n 1, 1, []), (.iload 5, 2, []), (.iconst 4, 1, []), (.iconst 1, 1, []), (.invokevirtual 176, 3, [40, 5, 3]), (.iconst 1, 1, []), (.ireturn, 1, [])])]
abbrev M_X11_hole : Md := (139, 11, 6, (some .boolean), P_X11_hole)
theorem ok_X11_hole : k_okM M_X11_hole := by unfold k_okM; decide +kernel
def P_X11_copper : CB := [(0, [(.aload_n 0, 1, []), (.getfield 18, 3, [11, 0, 1]), (.iload_n 1, 1, []), (.iload_n 2, 1, []), (.iload_n 3, 1, []), (.invokevirtual 147, 3, [29, 4, 2]), (.istore 4, 2, []), (.iload 4, 2, []), (.iconst (-1), 1, []), (.if_icmp .ne 7, 3, [1]), (.iconst (-1), 1, []), (.goto 12, 3, [2])]),
  (22, [(.aload_n 0, 1, []), (.getfield 40, 3, [11, 2, 1]), (.iload 4, 2, []), (.invokevirtual 180, 3, [52, 2, 3]), (.nop, 0, [2])]),
  (31, [(.ireturn, 1, [])])]
abbrev M_X11_copper : Md := (140, 11, 5, (some .int), P_X11_copper)
theorem ok_X11_copper : k_okM M_X11_copper := by unfold k_okM; decide +kernel
def P_X11_free : CB := [(0, [(.aload_n 0, 1, []), (.getfield 18, 3, [11, 0, 1]), (.iload_n 2, 1, []), (.iload_n 3, 1, []), (.iload 4, 2, []), (.invokevirtual 147, 3, [29, 4, 2]), (.istore 5, 2, []), (.aload_n 0, 1, []), (.iload_n 1, 1, []), (.invokevirtual 150, 3, [173, 2, 11]), (.ifCond .eq 9, 3, [1]), (.iload 5, 2, []), (.iconst (-1), 1, []), (.if_icmp .ne 5, 3, [2]), (.nop, 0, [1])]),
  (27, [(.iconst (-1), 1, []), (.ireturn, 1, [])]),
  (29, [(.aload_n 0, 1, []), (.getfield 49, 3, [11, 3, 1]), (.iload_n 1, 1, []), (.iconst 1, 1, []), (.invokevirtual 183, 3, [77, 3, 6]), (.aload_n 0, 1, []), (.getfield 49, 3, [11, 3, 1]), (.iconst 0, 1, []), (.invokevirtual 187, 3, [81, 2, 6]), (.aload_n 0, 1, []), (.getfield 49, 3, [11, 3, 1]), (.getfield 190, 3, [6, 5, 1]), (.iload 5, 2, []), (.iaload, 1, []), (.ireturn, 1, [])])]
abbrev M_X11_free : Md := (141, 11, 6, (some .int), P_X11_free)
theorem ok_X11_free : k_okM M_X11_free := by unfold k_okM; decide +kernel
def P_X11_lay : CB := [(0, [(.aload_n 0, 1, []), (.iload_n 1, 1, []), (.invokevirtual 150, 3, [173, 2, 11]), (.ifCond .eq 14, 3, [1]), (.aload_n 0, 1, []), (.getfield 58, 3, [11, 4, 1]), (.iload_n 1, 1, []), (.invokevirtual 193, 3, [89, 2, 7]), (.goto 4, 3, [2])]),
  (19, [(.iconst (-1), 1, []), (.nop, 0, [2])]),
  (20, [(.ireturn, 1, [])])]
abbrev M_X11_lay : Md := (142, 11, 2, (some .int), P_X11_lay)
theorem ok_X11_lay : k_okM M_X11_lay := by unfold k_okM; decide +kernel
def P_X11_cost : CB := [(0, [(.aload_n 0, 1, []), (.iload_n 1, 1, []), (.invokevirtual 150, 3, [173, 2, 11]), (.ifCond .eq 15, 3, [1]), (.aload_n 0, 1, []), (.getfield 58, 3, [11, 4, 1]), (.iload_n 1, 1, []), (.iload_n 2, 1, []), (.invokevirtual 196, 3, [90, 3, 7]), (.goto 4, 3, [2])]),
  (20, [(.iconst (-1), 1, []), (.nop, 0, [2])]),
  (21, [(.ireturn, 1, [])])]
abbrev M_X11_cost : Md := (143, 11, 3, (some .int), P_X11_cost)
theorem ok_X11_cost : k_okM M_X11_cost := by unfold k_okM; decide +kernel
def P_X11_rip : CB := [(0, [(.aload_n 0, 1, []), (.iload_n 1, 1, []), (.invokevirtual 150, 3, [173, 2, 11]), (.ifCond .eq 14, 3, [1]), (.aload_n 0, 1, []), (.getfield 40, 3, [11, 2, 1]), (.iload_n 1, 1, []), (.invokevirtual 200, 3, [48, 2, 3]), (.ifCond .ne 5, 3, [2]), (.nop, 0, [1])]),
  (19, [(.iconst 0, 1, []), (.ireturn, 1, [])]),
  (21, [(.aload_n 0, 1, []), (.getfield 40, 3, [11, 2, 1]), (.iload_n 1, 1, []), (.invokevirtual 203, 3, [44, 2, 3]), (.iconst 1, 1, []), (.ireturn, 1, [])])]
abbrev M_X11_rip : Md := (144, 11, 2, (some .boolean), P_X11_rip)
theorem ok_X11_rip : k_okM M_X11_rip := by unfold k_okM; decide +kernel
def P_X11_rank : CB := [(0, [(.aload_n 0, 1, []), (.iload_n 1, 1, []), (.invokevirtual 150, 3, [173, 2, 11]), (.ifCond .eq 13, 3, [1]), (.iload_n 2, 1, []), (.ifCond .lt 9, 3, [1]), (.iload_n 2, 1, []), (.bipush 99, 2, []), (.if_icmp .le 5, 3, [2]), (.nop, 0, [1])]),
  (18, [(.iconst 0, 1, []), (.ireturn, 1, [])]),
  (20, [(.aload_n 0, 1, []), (.getfield 40, 3, [11, 2, 1]), (.getfield 206, 3, [3, 3, 1]), (.iload_n 1, 1, []), (.iload_n 2, 1, []), (.iastore, 1, []), (.iconst 1, 1, []), (.ireturn, 1, [])])]
abbrev M_X11_rank : Md := (145, 11, 3, (some .boolean), P_X11_rank)
theorem ok_X11_rank : k_okM M_X11_rank := by unfold k_okM; decide +kernel
def P_X11_order : CB := [(0, [(.aload_n 0, 1, []), (.getfield 67, 3, [11, 5, 1]), (.invokevirtual 209, 3, [68, 1, 5]), (.ireturn, 1, [])])]
abbrev M_X11_order : Md := (146, 11, 1, (some .int), P_X11_order)
theorem ok_X11_order : k_okM M_X11_order := by unfold k_okM; decide +kernel
def P_X11_press : CB := [(0, [(.iload_n 1, 1, []), (.iload_n 2, 1, []), (.invokestatic 212, 3, [176, 2]), (.ifCond .ne 5, 3, [1]), (.iconst (-1), 1, []), (.ireturn, 1, [])]),
  (10, [(.aload_n 0, 1, []), (.getfield 40, 3, [11, 2, 1]), (.invokevirtual 216, 3, [57, 1, 3]), (.aload_n 0, 1, []), (.getfield 67, 3, [11, 5, 1]), (.iload_n 1, 1, []), (.iload_n 2, 1, []), (.invokevirtual 219, 3, [69, 3, 5]), (.istore_n 3, 1, []), (.iload_n 3, 1, []), (.iconst (-1), 1, []), (.if_icmp .ne 10, 3, [2]), (.aload_n 0, 1, []), (.getfield 40, 3, [11, 2, 1]), (.invokevirtual 222, 3, [58, 1, 3]), (.nop, 0, [2])]),
  (39, [(.iload_n 3, 1, []), (.ireturn, 1, [])])]
abbrev M_X11_press : Md := (147, 11, 4, (some .int), P_X11_press)
theorem ok_X11_press : k_okM M_X11_press := by unfold k_okM; decide +kernel
def P_X11_cut : CB := [(0, [(.aload_n 0, 1, []), (.iload_n 1, 1, []), (.invokevirtual 150, 3, [173, 2, 11]), (.ifCond .eq 24, 3, [1]), (.iload_n 2, 1, []), (.ifCond .lt 20, 3, [1]), (.iload_n 2, 1, []), (.iconst 3, 1, []), (.if_icmp .gt 15, 3, [1]), (.aload_n 0, 1, []), (.getfield 40, 3, [11, 2, 1]), (.getfield 157, 3, [3, 4, 1]), (.iload_n 1, 1, []), (.iaload, 1, []), (.ifCond .ne 5, 3, [2]), (.nop, 0, [1])]),
  (29, [(.iconst (-1), 1, []), (.ireturn, 1, [])]),
  (31, [(.aload_n 0, 1, []), (.getfield 74, 3, [11, 6, 1]), (.iload_n 1, 1, []), (.iload_n 2, 1, []), (.invokevirtual 225, 3, [18, 3, 1]), (.ireturn, 1, [])])]
abbrev M_X11_cut : Md := (148, 11, 3, (some .int), P_X11_cut)
theorem ok_X11_cut : k_okM M_X11_cut := by unfold k_okM; decide +kernel
def P_X11_bars : CB := [(0, [(.aload_n 0, 1, []), (.iload_n 1, 1, []), (.invokevirtual 150, 3, [173, 2, 11]), (.ifCond .eq 28, 3, [1]), (.aload_n 0, 1, []), (.getfield 40, 3, [11, 2, 1]), (.getfield 157, 3, [3, 4, 1]), (.iload_n 1, 1, []), (.iaload, 1, []), (.ifCond .le 16, 3, [1]), (.aload_n 0, 1, []), (.getfield 74, 3, [11, 6, 1]), (.iload_n 1, 1, []), (.bipush 6, 2, []), (.invokevirtual 228, 3, [22, 3, 1]), (.goto 4, 3, [2])]),
  (33, [(.iconst (-1), 1, []), (.nop, 0, [2])]),
  (34, [(.ireturn, 1, [])])]
abbrev M_X11_bars : Md := (149, 11, 2, (some .int), P_X11_bars)
theorem ok_X11_bars : k_okM M_X11_bars := by unfold k_okM; decide +kernel
def P_X11_together : CB := [(0, [(.aload_n 0, 1, []), (.iload_n 1, 1, []), (.invokevirtual 231, 3, [175, 2, 11]), (.ifCond .eq 14, 3, [1]), (.aload_n 0, 1, []), (.getfield 81, 3, [11, 7, 1]), (.iload_n 1, 1, []), (.invokevirtual 234, 3, [120, 2, 10]), (.goto 4, 3, [2])]),
  (19, [(.iconst (-1), 1, []), (.nop, 0, [2])]),
  (20, [(.ireturn, 1, [])])]
abbrev M_X11_together : Md := (150, 11, 2, (some .int), P_X11_together)
theorem ok_X11_together : k_okM M_X11_together := by unfold k_okM; decide +kernel
def P_X11_about : CB := [(0, [(.aload_n 0, 1, []), (.iload_n 1, 1, []), (.invokevirtual 150, 3, [173, 2, 11]), (.ifCond .ne 5, 3, [1]), (.iconst (-1), 1, []), (.ireturn, 1, [])]),
  (10, [(.iload_n 2, 1, []), (.tableswitch 80 0 4 #[33, 42, 51, 60, 70], 33, [7, 2, 3, 4, 5, 6])]),
  (44, [(.aload_n 0, 1, []), (.getfield 40, 3, [11, 2, 1]), (.iload_n 1, 1, []), (.invokevirtual 237, 3, [54, 2, 3]), (.ireturn, 1, [])]),
  (53, [(.aload_n 0, 1, []), (.getfield 40, 3, [11, 2, 1]), (.iload_n 1, 1, []), (.invokevirtual 240, 3, [55, 2, 3]), (.ireturn, 1, [])]),
  (62, [(.aload_n 0, 1, []), (.getfield 40, 3, [11, 2, 1]), (.iload_n 1, 1, []), (.invokevirtual 243, 3, [56, 2, 3]), (.ireturn, 1, [])]),
  (71, [(.aload_n 0, 1, []), (.getfield 40, 3, [11, 2, 1]), (.getfield 157, 3, [3, 4, 1]), (.iload_n 1, 1, []), (.iaload, 1, []), (.ireturn, 1, [])]),
  (81, [(.aload_n 0, 1, []), (.getfield 40, 3, [11, 2, 1]), (.getfield 206, 3, [3, 3, 1]), (.iload_n 1, 1, []), (.iaload, 1, []), (.ireturn, 1, [])]),
  (91, [(.iconst (-1), 1, []), (.ireturn, 1, [])])]
abbrev M_X11_about : Md := (151, 11, 3, (some .int), P_X11_about)
theorem ok_X11_about : k_okM M_X11_about := by unfold k_okM; decide +kernel
def P_X11_stretch : CB := [(0, [(.aload_n 0, 1, []), (.iload_n 1, 1, []), (.invokevirtual 150, 3, [173, 2, 11]), (.ifCond .eq 25, 3, [1]), (.iload_n 2, 1, []), (.ifCond .lt 21, 3, [1]), (.iload_n 2, 1, []), (.sipush 200, 3, []), (.if_icmp .gt 14, 3, [1]), (.aload_n 0, 1, []), (.getfield 102, 3, [11, 10, 1]), (.iload_n 1, 1, []), (.invokevirtual 246, 3, [112, 2, 9]), (.ifCond .ne 5, 3, [2]), (.nop, 0, [1])]),
  (30, [(.iconst (-1), 1, []), (.ireturn, 1, [])]),
  (32, [(.aload_n 0, 1, []), (.getfield 102, 3, [11, 10, 1]), (.iload_n 1, 1, []), (.iload_n 2, 1, []), (.invokevirtual 249, 3, [114, 3, 9]), (.ireturn, 1, [])])]
abbrev M_X11_stretch : Md := (152, 11, 3, (some .int), P_X11_stretch)
theorem ok_X11_stretch : k_okM M_X11_stretch := by unfold k_okM; decide +kernel
def P_X11_span : CB := [(0, [(.aload_n 0, 1, []), (.iload_n 1, 1, []), (.invokevirtual 150, 3, [173, 2, 11]), (.ifCond .eq 14, 3, [1]), (.aload_n 0, 1, []), (.getfield 102, 3, [11, 10, 1]), (.iload_n 1, 1, []), (.invokevirtual 246, 3, [112, 2, 9]), (.ifCond .ne 5, 3, [2]), (.nop, 0, [1])]),
  (19, [(.iconst (-1), 1, []), (.ireturn, 1, [])]),
  (21, [(.aload_n 0, 1, []), (.getfield 40, 3, [11, 2, 1]), (.invokevirtual 216, 3, [57, 1, 3]), (.aload_n 0, 1, []), (.getfield 102, 3, [11, 10, 1]), (.iload_n 1, 1, []), (.ldc 254, 2, [2147483647]), (.invokevirtual 249, 3, [114, 3, 9]), (.istore_n 2, 1, []), (.aload_n 0, 1, []), (.getfield 40, 3, [11, 2, 1]), (.invokevirtual 222, 3, [58, 1, 3]), (.iload_n 2, 1, []), (.ireturn, 1, [])])]
abbrev M_X11_span : Md := (153, 11, 3, (some .int), P_X11_span)
theorem ok_X11_span : k_okM M_X11_span := by unfold k_okM; decide +kernel
def P_X11_equal : CB := [(0, [(.aload_n 0, 1, []), (.iload_n 1, 1, []), (.invokevirtual 231, 3, [175, 2, 11]), (.ifCond .eq 14, 3, [1]), (.iload_n 2, 1, []), (.ifCond .lt 10, 3, [1]), (.iload_n 2, 1, []), (.sipush 200, 3, []), (.if_icmp .le 5, 3, [2]), (.nop, 0, [1])]),
  (19, [(.iconst (-1), 1, []), (.ireturn, 1, [])]),
  (21, [(.ldc 254, 2, [2147483647]), (.istore_n 3, 1, []), (.iconst 0, 1, []), (.istore 4, 2, []), (.iconst 0, 1, []), (.istore 5, 2, []), (.nop, 0, [3])]),
  (30, [(.iload 5, 2, []), (.aload_n 0, 1, []), (.getfield 40, 3, [11, 2, 1]), (.getfield 141, 3, [3, 14, 0]), (.if_icmp .ge 45, 3, [5]), (.iload_n 1, 1, []), (.iload 5, 2, []), (.ishr, 1, []), (.iconst 1, 1, []), (.iand, 1, []), (.ifCond .eq 30, 3, [4]), (.aload_n 0, 1, []), (.getfield 40, 3, [11, 2, 1]), (.iload 5, 2, []), (.invokevirtual 237, 3, [54, 2, 3]), (.istore 6, 2, []), (.iload_n 3, 1, []), (.iload 6, 2, []), (.invokestatic 255, 3, [1]), (.istore_n 3, 1, []), (.iload 4, 2, []), (.iload 6, 2, []), (.invokestatic 258, 3, [0]), (.istore 4, 2, []), (.nop, 0, [4])]),
  (78, [(.iinc 5 1, 3, []), (.goto (-51), 3, [3])]),
  (84, [(.iload 4, 2, []), (.iload_n 3, 1, []), (.isub, 1, []), (.iload_n 2, 1, []), (.if_icmp .gt 7, 3, [6]), (.iconst 1, 1, []), (.goto 4, 3, [7])]),
  (96, [(.iconst 0, 1, []), (.nop, 0, [7])]),
  (97, [(.ireturn, 1, [])])]
abbrev M_X11_equal : Md := (154, 11, 7, (some .int), P_X11_equal)
theorem ok_X11_equal : k_okM M_X11_equal := by unfold k_okM; decide +kernel
def P_X11_plane : CB := [(0, [(.aload_n 0, 1, []), (.iload_n 1, 1, []), (.invokevirtual 150, 3, [173, 2, 11]), (.ifCond .eq 20, 3, [1]), (.aload_n 0, 1, []), (.iload_n 2, 1, []), (.invokevirtual 261, 3, [174, 2, 11]), (.ifCond .eq 12, 3, [1]), (.iload_n 3, 1, []), (.ifCond .lt 8, 3, [1]), (.iload_n 3, 1, []), (.iconst 3, 1, []), (.if_icmp .le 5, 3, [2]), (.nop, 0, [1])]),
  (25, [(.iconst (-1), 1, []), (.ireturn, 1, [])]),
  (27, [(.aload_n 0, 1, []), (.getfield 88, 3, [11, 8, 1]), (.iload_n 1, 1, []), (.iload_n 2, 1, []), (.iload_n 3, 1, []), (.invokevirtual 264, 3, [61, 4, 4]), (.ireturn, 1, [])])]
abbrev M_X11_plane : Md := (155, 11, 4, (some .int), P_X11_plane)
theorem ok_X11_plane : k_okM M_X11_plane := by unfold k_okM; decide +kernel
def P_X11_spokes : CB := [(0, [(.aload_n 0, 1, []), (.iload_n 1, 1, []), (.invokevirtual 150, 3, [173, 2, 11]), (.ifCond .eq 20, 3, [1]), (.iload_n 2, 1, []), (.ifCond .lt 16, 3, [1]), (.iload_n 2, 1, []), (.aload_n 0, 1, []), (.getfield 40, 3, [11, 2, 1]), (.getfield 157, 3, [3, 4, 1]), (.iload_n 1, 1, []), (.iaload, 1, []), (.if_icmp .lt 5, 3, [2]), (.nop, 0, [1])]),
  (25, [(.iconst (-1), 1, []), (.ireturn, 1, [])]),
  (27, [(.aload_n 0, 1, []), (.getfield 88, 3, [11, 8, 1]), (.iload_n 1, 1, []), (.aload_n 0, 1, []), (.getfield 40, 3, [11, 2, 1]), (.iload_n 1, 1, []), (.iload_n 2, 1, []), (.invokevirtual 267, 3, [36, 3, 3]), (.invokevirtual 270, 3, [65, 3, 4]), (.ireturn, 1, [])])]
abbrev M_X11_spokes : Md := (156, 11, 3, (some .int), P_X11_spokes)
theorem ok_X11_spokes : k_okM M_X11_spokes := by unfold k_okM; decide +kernel
def P_X11_back : CB := [(0, [(.aload_n 0, 1, []), (.iload_n 1, 1, []), (.invokevirtual 150, 3, [173, 2, 11]), (.ifCond .eq 24, 3, [1]), (.aload_n 0, 1, []), (.iload_n 2, 1, []), (.invokevirtual 150, 3, [173, 2, 11]), (.ifCond .eq 16, 3, [1]), (.iload_n 1, 1, []), (.iload_n 2, 1, []), (.if_icmp .eq 11, 3, [1]), (.aload_n 0, 1, []), (.iload_n 3, 1, []), (.invokevirtual 261, 3, [174, 2, 11]), (.ifCond .ne 5, 3, [2]), (.nop, 0, [1])]),
  (29, [(.iconst (-1), 1, []), (.ireturn, 1, [])]),
  (31, [(.aload_n 0, 1, []), (.getfield 88, 3, [11, 8, 1]), (.iload_n 1, 1, []), (.iload_n 2, 1, []), (.iload_n 3, 1, []), (.invokevirtual 273, 3, [66, 4, 4]), (.ireturn, 1, [])])]
abbrev M_X11_back : Md := (157, 11, 4, (some .int), P_X11_back)
theorem ok_X11_back : k_okM M_X11_back := by unfold k_okM; decide +kernel
end
section
/-! code as data (written by wip/whole/gencode.py) -/
def P_X11_wander : CB := [(0, [(.iload_n 1, 1, []), (.bipush (-3), 2, []), (.if_icmp .lt 28, 3, [1]), (.iload_n 1, 1, []), (.iconst 3, 1, []), (.if_icmp .gt 23, 3, [1]), (.iload_n 2, 1, []), (.bipush (-3), 2, []), (.if_icmp .lt 17, 3, [1]), (.iload_n 2, 1, []), (.iconst 3, 1, []), (.if_icmp .gt 12, 3, [1]), (.iload_n 3, 1, []), (.ifCond .lt 8, 3, [1]), (.iload_n 3, 1, []), (.iconst 1, 1, []), (.if_icmp .le 5, 3, [2]), (.nop, 0, [1])]),
  (31, [(.iconst (-1), 1, []), (.ireturn, 1, [])]),
  (33, [(.aload_n 0, 1, []), (.getfield 95, 3, [11, 9, 1]), (.iload_n 1, 1, []), (.iload_n 2, 1, []), (.invokevirtual 276, 3, [1, 3, 0]), (.iload_n 3, 1, []), (.ifCond .ne 13, 3, [3]), (.aload_n 0, 1, []), (.getfield 95, 3, [11, 9, 1]), (.getfield 280, 3, [0, 3, 0]), (.goto 10, 3, [4])]),
  (56, [(.aload_n 0, 1, []), (.getfield 95, 3, [11, 9, 1]), (.getfield 283, 3, [0, 4, 0]), (.nop, 0, [4])]),
  (63, [(.ireturn, 1, [])])]
abbrev M_X11_wander : Md := (158, 11, 4, (some .int), P_X11_wander)
theorem ok_X11_wander : k_okM M_X11_wander := by unfold k_okM; decide +kernel
def P_X11_worst : CB := [(0, [(.iload_n 1, 1, []), (.ifCond .lt 17, 3, [1]), (.iload_n 1, 1, []), (.iconst 3, 1, []), (.if_icmp .gt 12, 3, [1]), (.iload_n 2, 1, []), (.ifCond .lt 8, 3, [1]), (.iload_n 2, 1, []), (.iconst 2, 1, []), (.if_icmp .le 7, 3, [2]), (.nop, 0, [1])]),
  (18, [(.sipush (-1000), 3, []), (.ireturn, 1, [])]),
  (22, [(.aload_n 0, 1, []), (.getfield 95, 3, [11, 9, 1]), (.iload_n 1, 1, []), (.iload_n 2, 1, []), (.invokevirtual 286, 3, [3, 3, 0]), (.ireturn, 1, [])])]
abbrev M_X11_worst : Md := (159, 11, 3, (some .int), P_X11_worst)
theorem ok_X11_worst : k_okM M_X11_worst := by unfold k_okM; decide +kernel
def P_X11_late : CB := [(0, [(.aload_n 0, 1, []), (.getfield 18, 3, [11, 0, 1]), (.iload_n 3, 1, []), (.iload 4, 2, []), (.iload 5, 2, []), (.invokevirtual 147, 3, [29, 4, 2]), (.istore 6, 2, []), (.aload_n 0, 1, []), (.iload_n 1, 1, []), (.invokevirtual 150, 3, [173, 2, 11]), (.ifCond .eq 38, 3, [1]), (.iload_n 2, 1, []), (.ifCond .lt 34, 3, [1]), (.iload_n 2, 1, []), (.aload_n 0, 1, []), (.getfield 40, 3, [11, 2, 1]), (.getfield 157, 3, [3, 4, 1]), (.iload_n 1, 1, []), (.iaload, 1, []), (.if_icmp .ge 21, 3, [1]), (.iload 6, 2, []), (.iconst (-1), 1, []), (.if_icmp .eq 15, 3, [1]), (.aload_n 0, 1, []), (.getfield 40, 3, [11, 2, 1]), (.iload 6, 2, []), (.invokevirtual 154, 3, [35, 2, 3]), (.ifCond .eq 5, 3, [2]), (.nop, 0, [1])]),
  (57, [(.iconst (-1), 1, []), (.ireturn, 1, [])]),
  (59, [(.aload_n 0, 1, []), (.getfield 74, 3, [11, 6, 1]), (.iload_n 1, 1, []), (.iload_n 2, 1, []), (.iload 6, 2, []), (.invokevirtual 289, 3, [26, 4, 1]), (.ireturn, 1, [])])]
abbrev M_X11_late : Md := (160, 11, 7, (some .int), P_X11_late)
theorem ok_X11_late : k_okM M_X11_late := by unfold k_okM; decide +kernel
def P_X11_netlist : CB := [(0, [(.iload_n 1, 1, []), (.ifCond .lt 8, 3, [1]), (.iload_n 1, 1, []), (.iconst 1, 1, []), (.if_icmp .le 5, 3, [2]), (.nop, 0, [1])]),
  (9, [(.iconst (-1), 1, []), (.ireturn, 1, [])]),
  (11, [(.aload_n 0, 1, []), (.getfield 95, 3, [11, 9, 1]), (.invokevirtual 292, 3, [4, 1, 0]), (.iload_n 1, 1, []), (.ifCond .ne 13, 3, [3]), (.aload_n 0, 1, []), (.getfield 95, 3, [11, 9, 1]), (.invokevirtual 295, 3, [7, 1, 0]), (.goto 10, 3, [4])]),
  (32, [(.aload_n 0, 1, []), (.getfield 95, 3, [11, 9, 1]), (.invokevirtual 298, 3, [9, 1, 0]), (.nop, 0, [4])]),
  (39, [(.ireturn, 1, [])])]
abbrev M_X11_netlist : Md := (161, 11, 2, (some .int), P_X11_netlist)
theorem ok_X11_netlist : k_okM M_X11_netlist := by unfold k_okM; decide +kernel
def P_X11_test : CB := [(0, [(.aload_n 0, 1, []), (.iload_n 1, 1, []), (.invokevirtual 261, 3, [174, 2, 11]), (.ifCond .eq 14, 3, [1]), (.aload_n 0, 1, []), (.getfield 95, 3, [11, 9, 1]), (.iload_n 1, 1, []), (.invokevirtual 301, 3, [11, 2, 0]), (.goto 4, 3, [2])]),
  (19, [(.iconst (-1), 1, []), (.nop, 0, [2])]),
  (20, [(.ireturn, 1, [])])]
abbrev M_X11_test : Md := (162, 11, 2, (some .int), P_X11_test)
theorem ok_X11_test : k_okM M_X11_test := by unfold k_okM; decide +kernel
def P_X11_slow : CB := [(0, [(.iload_n 1, 1, []), (.iconst (-1), 1, []), (.if_icmp .eq 11, 3, [1]), (.aload_n 0, 1, []), (.iload_n 1, 1, []), (.invokevirtual 261, 3, [174, 2, 11]), (.ifCond .eq 13, 3, [2]), (.nop, 0, [1])]),
  (13, [(.iload_n 2, 1, []), (.ifCond .lt 9, 3, [2]), (.iload_n 2, 1, []), (.bipush 99, 2, []), (.if_icmp .le 5, 3, [3]), (.nop, 0, [2])]),
  (23, [(.iconst 0, 1, []), (.ireturn, 1, [])]),
  (25, [(.aload_n 0, 1, []), (.getfield 95, 3, [11, 9, 1]), (.getfield 304, 3, [0, 2, 1]), (.iload_n 1, 1, []), (.iconst 1, 1, []), (.iadd, 1, []), (.iload_n 2, 1, []), (.iastore, 1, []), (.iconst 1, 1, []), (.ireturn, 1, [])])]
abbrev M_X11_slow : Md := (163, 11, 3, (some .boolean), P_X11_slow)
theorem ok_X11_slow : k_okM M_X11_slow := by unfold k_okM; decide +kernel
def P_X11_delay : CB := [(0, [(.aload_n 0, 1, []), (.iload_n 1, 1, []), (.invokevirtual 150, 3, [173, 2, 11]), (.ifCond .eq 14, 3, [1]), (.aload_n 0, 1, []), (.getfield 95, 3, [11, 9, 1]), (.iload_n 1, 1, []), (.invokevirtual 307, 3, [13, 2, 0]), (.goto 4, 3, [2])]),
  (19, [(.iconst (-1), 1, []), (.nop, 0, [2])]),
  (20, [(.ireturn, 1, [])])]
abbrev M_X11_delay : Md := (164, 11, 2, (some .int), P_X11_delay)
theorem ok_X11_delay : k_okM M_X11_delay := by unfold k_okM; decide +kernel
def P_X11_pair : CB := [(0, [(.aload_n 0, 1, []), (.iload_n 1, 1, []), (.invokevirtual 150, 3, [173, 2, 11]), (.ifCond .eq 16, 3, [1]), (.aload_n 0, 1, []), (.iload_n 2, 1, []), (.invokevirtual 150, 3, [173, 2, 11]), (.ifCond .eq 8, 3, [1]), (.iload_n 1, 1, []), (.iload_n 2, 1, []), (.if_icmp .ne 7, 3, [2]), (.nop, 0, [1])]),
  (21, [(.sipush (-1000), 3, []), (.ireturn, 1, [])]),
  (25, [(.iload_n 3, 1, []), (.tableswitch 95 0 3 #[30, 40, 58, 85], 30, [9, 3, 4, 5, 8])]),
  (56, [(.aload_n 0, 1, []), (.getfield 95, 3, [11, 9, 1]), (.iload_n 1, 1, []), (.iload_n 2, 1, []), (.invokevirtual 310, 3, [15, 3, 0]), (.ireturn, 1, [])]),
  (66, [(.aload_n 0, 1, []), (.getfield 95, 3, [11, 9, 1]), (.iload_n 1, 1, []), (.invokevirtual 307, 3, [13, 2, 0]), (.aload_n 0, 1, []), (.getfield 95, 3, [11, 9, 1]), (.iload_n 2, 1, []), (.invokevirtual 307, 3, [13, 2, 0]), (.isub, 1, []), (.ireturn, 1, [])]),
  (84, [(.aload_n 0, 1, []), (.getfield 102, 3, [11, 10, 1]), (.iload_n 1, 1, []), (.invokevirtual 246, 3, [112, 2, 9]), (.ifCond .eq 15, 3, [6]), (.aload_n 0, 1, []), (.getfield 102, 3, [11, 10, 1]), (.iload_n 1, 1, []), (.iload_n 2, 1, []), (.invokevirtual 313, 3, [117, 3, 9]), (.goto 6, 3, [7])]),
  (107, [(.sipush (-1000), 3, []), (.nop, 0, [7])]),
  (110, [(.ireturn, 1, [])]),
  (111, [(.aload_n 0, 1, []), (.getfield 95, 3, [11, 9, 1]), (.iload_n 1, 1, []), (.iload_n 2, 1, []), (.invokevirtual 316, 3, [16, 3, 0]), (.ireturn, 1, [])]),
  (121, [(.sipush (-1000), 3, []), (.ireturn, 1, [])])]
abbrev M_X11_pair : Md := (165, 11, 4, (some .int), P_X11_pair)
theorem ok_X11_pair : k_okM M_X11_pair := by unfold k_okM; decide +kernel
def P_X11_beside : CB := [(0, [(.iload_n 1, 1, []), (.iload_n 2, 1, []), (.invokestatic 212, 3, [176, 2]), (.ifCond .eq 12, 3, [1]), (.iload_n 3, 1, []), (.ifCond .lt 8, 3, [1]), (.iload_n 3, 1, []), (.iconst 5, 1, []), (.if_icmp .le 5, 3, [2]), (.nop, 0, [1])]),
  (17, [(.iconst (-1), 1, []), (.ireturn, 1, [])]),
  (19, [(.aload_n 0, 1, []), (.getfield 40, 3, [11, 2, 1]), (.invokevirtual 216, 3, [57, 1, 3]), (.iload_n 3, 1, []), (.iconst 3, 1, []), (.if_icmp .ge 14, 3, [3]), (.aload_n 0, 1, []), (.getfield 67, 3, [11, 5, 1]), (.iload_n 3, 1, []), (.invokevirtual 319, 3, [72, 2, 5]), (.goto 13, 3, [4])]),
  (42, [(.aload_n 0, 1, []), (.getfield 67, 3, [11, 5, 1]), (.iload_n 1, 1, []), (.iload_n 2, 1, []), (.iload_n 3, 1, []), (.invokevirtual 322, 3, [73, 4, 5]), (.nop, 0, [4])]),
  (52, [(.istore 4, 2, []), (.aload_n 0, 1, []), (.getfield 40, 3, [11, 2, 1]), (.invokevirtual 222, 3, [58, 1, 3]), (.iload 4, 2, []), (.ireturn, 1, [])])]
abbrev M_X11_beside : Md := (166, 11, 5, (some .int), P_X11_beside)
theorem ok_X11_beside : k_okM M_X11_beside := by unfold k_okM; decide +kernel
def P_X11_why : CB := [(0, [(.aload_n 0, 1, []), (.iload_n 1, 1, []), (.invokevirtual 150, 3, [173, 2, 11]), (.ifCond .eq 26, 3, [1]), (.aload_n 0, 1, []), (.getfield 40, 3, [11, 2, 1]), (.getfield 157, 3, [3, 4, 1]), (.iload_n 1, 1, []), (.iaload, 1, []), (.ifCond .le 14, 3, [1]), (.aload_n 0, 1, []), (.getfield 74, 3, [11, 6, 1]), (.iload_n 1, 1, []), (.invokevirtual 325, 3, [23, 2, 1]), (.goto 4, 3, [2])]),
  (31, [(.iconst (-1), 1, []), (.nop, 0, [2])]),
  (32, [(.ireturn, 1, [])])]
abbrev M_X11_why : Md := (167, 11, 2, (some .int), P_X11_why)
theorem ok_X11_why : k_okM M_X11_why := by unfold k_okM; decide +kernel
def P_X11_steady : CB := [(0, [(.aload_n 0, 1, []), (.getfield 40, 3, [11, 2, 1]), (.invokevirtual 216, 3, [57, 1, 3]), (.aload_n 0, 1, []), (.getfield 67, 3, [11, 5, 1]), (.invokevirtual 209, 3, [68, 1, 5]), (.pop, 1, []), (.aload_n 0, 1, []), (.getfield 40, 3, [11, 2, 1]), (.invokevirtual 328, 3, [59, 1, 3]), (.istore_n 1, 1, []), (.aload_n 0, 1, []), (.getfield 40, 3, [11, 2, 1]), (.invokevirtual 222, 3, [58, 1, 3]), (.iload_n 1, 1, []), (.ireturn, 1, [])])]
abbrev M_X11_steady : Md := (168, 11, 2, (some .boolean), P_X11_steady)
theorem ok_X11_steady : k_okM M_X11_steady := by unfold k_okM; decide +kernel
def P_X11_panel : CB := [(0, [(.iload_n 1, 1, []), (.iconst 1, 1, []), (.if_icmp .lt 22, 3, [1]), (.iload_n 1, 1, []), (.sipush 200, 3, []), (.if_icmp .gt 15, 3, [1]), (.iload_n 2, 1, []), (.iconst 1, 1, []), (.if_icmp .lt 10, 3, [1]), (.iload_n 2, 1, []), (.sipush 200, 3, []), (.if_icmp .le 5, 3, [2]), (.nop, 0, [1])]),
  (24, [(.iconst (-1), 1, []), (.ireturn, 1, [])]),
  (26, [(.iload_n 3, 1, []), (.ifCond .lt 20, 3, [3]), (.iload_n 3, 1, []), (.bipush 9, 2, []), (.if_icmp .gt 14, 3, [3]), (.iload 4, 2, []), (.ifCond .lt 9, 3, [3]), (.iload 4, 2, []), (.iconst 3, 1, []), (.if_icmp .le 5, 3, [4]), (.nop, 0, [3])]),
  (47, [(.iconst (-1), 1, []), (.ireturn, 1, [])]),
  (49, [(.iload 4, 2, []), (.iconst 2, 1, []), (.if_icmp .lt 22, 3, [7]), (.aload_n 0, 1, []), (.iload_n 1, 1, []), (.iload_n 2, 1, []), (.iload_n 3, 1, []), (.iload 4, 2, []), (.iconst 2, 1, []), (.if_icmp .ne 7, 3, [5]), (.iconst 1, 1, []), (.goto 4, 3, [6])]),
  (69, [(.iconst 0, 1, []), (.nop, 0, [6])]),
  (70, [(.invokevirtual 332, 3, [178, 5, 11]), (.ireturn, 1, [])]),
  (74, [(.iload_n 1, 1, []), (.aload_n 0, 1, []), (.getfield 18, 3, [11, 0, 1]), (.getfield 336, 3, [2, 0, 0]), (.iload_n 3, 1, []), (.invokestatic 339, 3, [177, 3]), (.iload_n 2, 1, []), (.aload_n 0, 1, []), (.getfield 18, 3, [11, 0, 1]), (.getfield 342, 3, [2, 1, 0]), (.iload_n 3, 1, []), (.invokestatic 339, 3, [177, 3]), (.imul, 1, []), (.istore 5, 2, []), (.iload_n 1, 1, []), (.aload_n 0, 1, []), (.getfield 18, 3, [11, 0, 1]), (.getfield 342, 3, [2, 1, 0]), (.iload_n 3, 1, []), (.invokestatic 339, 3, [177, 3]), (.iload_n 2, 1, []), (.aload_n 0, 1, []), (.getfield 18, 3, [11, 0, 1]), (.getfield 336, 3, [2, 0, 0]), (.iload_n 3, 1, []), (.invokestatic 339, 3, [177, 3]), (.imul, 1, []), (.istore 6, 2, []), (.iload 4, 2, []), (.ifCond .ne 11, 3, [8]), (.iload 5, 2, []), (.iload 6, 2, []), (.invokestatic 258, 3, [0]), (.ireturn, 1, [])]),
  (141, [(.iload 6, 2, []), (.iload 5, 2, []), (.if_icmp .le 7, 3, [9]), (.iconst 1, 1, []), (.goto 4, 3, [10])]),
  (152, [(.iconst 0, 1, []), (.nop, 0, [10])]),
  (153, [(.ireturn, 1, [])])]
abbrev M_X11_panel : Md := (169, 11, 7, (some .int), P_X11_panel)
theorem ok_X11_panel : k_okM M_X11_panel := by unfold k_okM; decide +kernel
def P_X11_unwire : CB := [(0, [(.aload_n 0, 1, []), (.iload_n 1, 1, []), (.invokevirtual 150, 3, [173, 2, 11]), (.ifCond .eq 14, 3, [1]), (.aload_n 0, 1, []), (.getfield 40, 3, [11, 2, 1]), (.iload_n 1, 1, []), (.invokevirtual 345, 3, [49, 2, 3]), (.ifCond .ne 5, 3, [2]), (.nop, 0, [1])]),
  (19, [(.iconst 0, 1, []), (.ireturn, 1, [])]),
  (21, [(.aload_n 0, 1, []), (.getfield 40, 3, [11, 2, 1]), (.iload_n 1, 1, []), (.invokevirtual 348, 3, [46, 2, 3]), (.iconst 1, 1, []), (.ireturn, 1, [])])]
abbrev M_X11_unwire : Md := (170, 11, 2, (some .boolean), P_X11_unwire)
theorem ok_X11_unwire : k_okM M_X11_unwire := by unfold k_okM; decide +kernel
def P_X11_count : CB := [(0, [(.iload_n 1, 1, []), (.tableswitch 87 0 5 #[39, 47, 55, 63, 71, 79], 39, [7, 1, 2, 3, 4, 5, 6])]),
  (40, [(.aload_n 0, 1, []), (.getfield 40, 3, [11, 2, 1]), (.getfield 120, 3, [3, 13, 0]), (.ireturn, 1, [])]),
  (48, [(.aload_n 0, 1, []), (.getfield 40, 3, [11, 2, 1]), (.getfield 141, 3, [3, 14, 0]), (.ireturn, 1, [])]),
  (56, [(.aload_n 0, 1, []), (.getfield 31, 3, [11, 1, 1]), (.getfield 110, 3, [8, 3, 0]), (.ireturn, 1, [])]),
  (64, [(.aload_n 0, 1, []), (.getfield 18, 3, [11, 0, 1]), (.getfield 336, 3, [2, 0, 0]), (.ireturn, 1, [])]),
  (72, [(.aload_n 0, 1, []), (.getfield 18, 3, [11, 0, 1]), (.getfield 342, 3, [2, 1, 0]), (.ireturn, 1, [])]),
  (80, [(.aload_n 0, 1, []), (.getfield 18, 3, [11, 0, 1]), (.getfield 24, 3, [2, 2, 0]), (.ireturn, 1, [])]),
  (88, [(.iconst (-1), 1, []), (.ireturn, 1, [])])]
abbrev M_X11_count : Md := (171, 11, 2, (some .int), P_X11_count)
theorem ok_X11_count : k_okM M_X11_count := by unfold k_okM; decide +kernel
def P_X11_within : CB := [(0, [(.iload_n 1, 1, []), (.iload_n 2, 1, []), (.iload_n 0, 1, []), (.invokestatic 255, 3, [1]), (.invokestatic 258, 3, [0]), (.ireturn, 1, [])])]
abbrev M_X11_within : Md := (172, 11, 3, (some .int), P_X11_within)
theorem ok_X11_within : k_okM M_X11_within := by unfold k_okM; decide +kernel
def P_X11_isNet : CB := [(0, [(.iload_n 1, 1, []), (.ifCond .lt 18, 3, [1]), (.iload_n 1, 1, []), (.aload_n 0, 1, []), (.getfield 40, 3, [11, 2, 1]), (.getfield 141, 3, [3, 14, 0]), (.if_icmp .ge 7, 3, [1]), (.iconst 1, 1, []), (.goto 4, 3, [2])]),
  (19, [(.iconst 0, 1, []), (.nop, 0, [2])]),
  (20, [(.ireturn, 1, [])])]
abbrev M_X11_isNet : Md := (173, 11, 2, (some .boolean), P_X11_isNet)
theorem ok_X11_isNet : k_okM M_X11_isNet := by unfold k_okM; decide +kernel
def P_X11_isLayer : CB := [(0, [(.iload_n 1, 1, []), (.ifCond .lt 18, 3, [1]), (.iload_n 1, 1, []), (.aload_n 0, 1, []), (.getfield 18, 3, [11, 0, 1]), (.getfield 24, 3, [2, 2, 0]), (.if_icmp .ge 7, 3, [1]), (.iconst 1, 1, []), (.goto 4, 3, [2])]),
  (19, [(.iconst 0, 1, []), (.nop, 0, [2])]),
  (20, [(.ireturn, 1, [])])]
abbrev M_X11_isLayer : Md := (174, 11, 2, (some .boolean), P_X11_isLayer)
theorem ok_X11_isLayer : k_okM M_X11_isLayer := by unfold k_okM; decide +kernel
def P_X11_areNets : CB := [(0, [(.iload_n 1, 1, []), (.ifCond .eq 25, 3, [1]), (.iload_n 1, 1, []), (.iconst 1, 1, []), (.aload_n 0, 1, []), (.getfield 40, 3, [11, 2, 1]), (.getfield 141, 3, [3, 14, 0]), (.ishl, 1, []), (.iconst 1, 1, []), (.isub, 1, []), (.iconst (-1), 1, []), (.ixor, 1, []), (.iand, 1, []), (.ifCond .ne 7, 3, [1]), (.iconst 1, 1, []), (.goto 4, 3, [2])]),
  (26, [(.iconst 0, 1, []), (.nop, 0, [2])]),
  (27, [(.ireturn, 1, [])])]
abbrev M_X11_areNets : Md := (175, 11, 2, (some .boolean), P_X11_areNets)
theorem ok_X11_areNets : k_okM M_X11_areNets := by unfold k_okM; decide +kernel
def P_X11_arePressing : CB := [(0, [(.iload_n 0, 1, []), (.iconst 1, 1, []), (.if_icmp .lt 24, 3, [1]), (.iload_n 0, 1, []), (.bipush 20, 2, []), (.if_icmp .gt 18, 3, [1]), (.iload_n 1, 1, []), (.iconst 1, 1, []), (.if_icmp .lt 13, 3, [1]), (.iload_n 1, 1, []), (.bipush 20, 2, []), (.if_icmp .gt 7, 3, [1]), (.iconst 1, 1, []), (.goto 4, 3, [2])]),
  (26, [(.iconst 0, 1, []), (.nop, 0, [2])]),
  (27, [(.ireturn, 1, [])])]
abbrev M_X11_arePressing : Md := (176, 11, 2, (some .boolean), P_X11_arePressing)
theorem ok_X11_arePressing : k_okM M_X11_arePressing := by unfold k_okM; decide +kernel
def P_X11_fitting : CB := [(0, [(.iload_n 1, 1, []), (.iload_n 2, 1, []), (.iadd, 1, []), (.istore_n 3, 1, []), (.iload_n 3, 1, []), (.ifCond .le 8, 3, [1]), (.iload_n 0, 1, []), (.iload_n 1, 1, []), (.if_icmp .ge 5, 3, [2]), (.nop, 0, [1])]),
  (13, [(.iconst 0, 1, []), (.ireturn, 1, [])]),
  (15, [(.iload_n 0, 1, []), (.iload_n 2, 1, []), (.iadd, 1, []), (.iload_n 3, 1, []), (.idiv, 1, []), (.ireturn, 1, [])])]
abbrev M_X11_fitting : Md := (177, 11, 4, (some .int), P_X11_fitting)
theorem ok_X11_fitting : k_okM M_X11_fitting := by unfold k_okM; decide +kernel
def P_X11_splitSheet : CB := [(0, [(.iload_n 2, 1, []), (.aload_n 0, 1, []), (.getfield 18, 3, [11, 0, 1]), (.getfield 342, 3, [2, 1, 0]), (.iload_n 3, 1, []), (.invokestatic 339, 3, [177, 3]), (.istore 5, 2, []), (.iload_n 2, 1, []), (.aload_n 0, 1, []), (.getfield 18, 3, [11, 0, 1]), (.getfield 336, 3, [2, 0, 0]), (.iload_n 3, 1, []), (.invokestatic 339, 3, [177, 3]), (.istore 6, 2, []), (.iload_n 1, 1, []), (.aload_n 0, 1, []), (.getfield 18, 3, [11, 0, 1]), (.getfield 336, 3, [2, 0, 0]), (.iload_n 3, 1, []), (.invokestatic 339, 3, [177, 3]), (.istore 7, 2, []), (.iconst (-1), 1, []), (.istore 8, 2, []), (.iconst 0, 1, []), (.istore 9, 2, []), (.iconst 0, 1, []), (.istore 10, 2, []), (.nop, 0, [1])]),
  (51, [(.iload 10, 2, []), (.iload 7, 2, []), (.if_icmp .gt 64, 3, [3]), (.iload_n 1, 1, []), (.iload 10, 2, []), (.aload_n 0, 1, []), (.getfield 18, 3, [11, 0, 1]), (.getfield 336, 3, [2, 0, 0]), (.iload_n 3, 1, []), (.iadd, 1, []), (.imul, 1, []), (.isub, 1, []), (.istore 11, 2, []), (.iload 10, 2, []), (.iload 5, 2, []), (.imul, 1, []), (.iload 11, 2, []), (.aload_n 0, 1, []), (.getfield 18, 3, [11, 0, 1]), (.getfield 342, 3, [2, 1, 0]), (.iload_n 3, 1, []), (.invokestatic 339, 3, [177, 3]), (.iload 6, 2, []), (.imul, 1, []), (.iadd, 1, []), (.istore 12, 2, []), (.iload 12, 2, []), (.iload 8, 2, []), (.if_icmp .le 11, 3, [2]), (.iload 12, 2, []), (.istore 8, 2, []), (.iload 10, 2, []), (.istore 9, 2, []), (.nop, 0, [2])]),
  (113, [(.iinc 10 1, 3, []), (.goto (-65), 3, [1])]),
  (119, [(.iload 4, 2, []), (.ifCond .eq 8, 3, [4]), (.iload 8, 2, []), (.goto 5, 3, [5])]),
  (129, [(.iload 9, 2, []), (.nop, 0, [5])]),
  (131, [(.ireturn, 1, [])])]
abbrev M_X11_splitSheet : Md := (178, 11, 13, (some .int), P_X11_splitSheet)
theorem ok_X11_splitSheet : k_okM M_X11_splitSheet := by unfold k_okM; decide +kernel
end
section
/-! code as data (written by wip/whole/gencode.py) -/
def P_X12_in : CB := [(0, [(.iload_n 0, 1, []), (.iload_n 1, 1, []), (.if_icmp .lt 12, 3, [1]), (.iload_n 0, 1, []), (.iload_n 2, 1, []), (.if_icmp .gt 7, 3, [1]), (.iconst 1, 1, []), (.goto 4, 3, [2])]),
  (14, [(.iconst 0, 1, []), (.nop, 0, [2])]),
  (15, [(.ireturn, 1, [])])]
abbrev M_X12_in : Md := (179, 12, 3, (some .boolean), P_X12_in)
theorem ok_X12_in : k_okM M_X12_in := by unfold k_okM; decide +kernel
def P_X12_within : CB := [(0, [(.iload_n 1, 1, []), (.iload_n 2, 1, []), (.iload_n 0, 1, []), (.invokestatic 3, 3, [1]), (.invokestatic 9, 3, [0]), (.ireturn, 1, [])])]
abbrev M_X12_within : Md := (180, 12, 3, (some .int), P_X12_within)
theorem ok_X12_within : k_okM M_X12_within := by unfold k_okM; decide +kernel
def P_X12_thrown : CB := [(0, [(.aload_n 0, 1, []), (.getfield 145, 3, [12, 0, 0]), (.ireturn, 1, [])])]
abbrev M_X12_thrown : Md := (182, 12, 1, (some .int), P_X12_thrown)
theorem ok_X12_thrown : k_okM M_X12_thrown := by unfold k_okM; decide +kernel
def P_X12_byteOf : CB := [(0, [(.iload 5, 2, []), (.iconst 4, 1, []), (.if_icmp .ge 7, 3, [1]), (.iload_n 0, 1, []), (.goto 38, 3, [5])]),
  (10, [(.iload 5, 2, []), (.bipush 8, 2, []), (.if_icmp .ge 7, 3, [2]), (.iload_n 1, 1, []), (.goto 27, 3, [5])]),
  (21, [(.iload 5, 2, []), (.bipush 12, 2, []), (.if_icmp .ge 7, 3, [3]), (.iload_n 2, 1, []), (.goto 16, 3, [5])]),
  (32, [(.iload 5, 2, []), (.bipush 16, 2, []), (.if_icmp .ge 7, 3, [4]), (.iload_n 3, 1, []), (.goto 5, 3, [5])]),
  (43, [(.iload 4, 2, []), (.nop, 0, [5])]),
  (45, [(.istore 6, 2, []), (.iload 6, 2, []), (.bipush 24, 2, []), (.bipush 8, 2, []), (.iload 5, 2, []), (.iconst 4, 1, []), (.irem, 1, []), (.imul, 1, []), (.isub, 1, []), (.ishr, 1, []), (.sipush 255, 3, []), (.iand, 1, []), (.ireturn, 1, [])])]
abbrev M_X12_byteOf : Md := (183, 12, 7, (some .int), P_X12_byteOf)
theorem ok_X12_byteOf : k_okM M_X12_byteOf := by unfold k_okM; decide +kernel
def P_X12_feed : CB := [(0, [(.iconst 0, 1, []), (.istore 6, 2, []), (.iconst 0, 1, []), (.istore 7, 2, []), (.nop, 0, [1])]),
  (6, [(.iload 7, 2, []), (.bipush 20, 2, []), (.if_icmp .ge 34, 3, [4]), (.iload 6, 2, []), (.iload_n 1, 1, []), (.iload_n 2, 1, []), (.iload_n 3, 1, []), (.iload 4, 2, []), (.iload 5, 2, []), (.iload 7, 2, []), (.invokestatic 148, 3, [183, 6]), (.ifCond .eq 7, 3, [2]), (.iconst 1, 1, []), (.goto 4, 3, [3])]),
  (34, [(.iconst 0, 1, []), (.nop, 0, [3])]),
  (35, [(.iadd, 1, []), (.istore 6, 2, []), (.iinc 7 1, 3, []), (.goto (-35), 3, [1])]),
  (44, [(.aload_n 0, 1, []), (.getfield 152, 3, [12, 5, 0]), (.iload 6, 2, []), (.iadd, 1, []), (.bipush 80, 2, []), (.if_icmp .le 5, 3, [5]), (.iconst (-1), 1, []), (.ireturn, 1, [])]),
  (58, [(.iconst 0, 1, []), (.istore 7, 2, []), (.nop, 0, [6])]),
  (61, [(.iload 7, 2, []), (.bipush 20, 2, []), (.if_icmp .ge 49, 3, [8]), (.iload_n 1, 1, []), (.iload_n 2, 1, []), (.iload_n 3, 1, []), (.iload 4, 2, []), (.iload 5, 2, []), (.iload 7, 2, []), (.invokestatic 148, 3, [183, 6]), (.istore 8, 2, []), (.iload 8, 2, []), (.ifCond .eq 24, 3, [7]), (.aload_n 0, 1, []), (.getfield 18, 3, [12, 4, 1]), (.aload_n 0, 1, []), (.getfield 152, 3, [12, 5, 0]), (.iload 8, 2, []), (.iastore, 1, []), (.aload_n 0, 1, []), (.dup, 1, []), (.getfield 152, 3, [12, 5, 0]), (.iconst 1, 1, []), (.iadd, 1, []), (.putfield 152, 3, [12, 5, 0]), (.nop, 0, [7])]),
  (108, [(.iinc 7 1, 3, []), (.goto (-50), 3, [6])]),
  (114, [(.aload_n 0, 1, []), (.getfield 152, 3, [12, 5, 0]), (.ireturn, 1, [])])]
abbrev M_X12_feed : Md := (184, 12, 9, (some .int), P_X12_feed)
theorem ok_X12_feed : k_okM M_X12_feed := by unfold k_okM; decide +kernel
def P_X12_end : CB := [(0, [(.iload_n 1, 1, []), (.ifCond .lt 11, 3, [1]), (.iload_n 1, 1, []), (.aload_n 0, 1, []), (.getfield 152, 3, [12, 5, 0]), (.if_icmp .le 5, 3, [2]), (.nop, 0, [1])]),
  (12, [(.iconst 0, 1, []), (.ireturn, 1, [])]),
  (14, [(.aload_n 0, 1, []), (.iload_n 1, 1, []), (.putfield 152, 3, [12, 5, 0]), (.iconst 1, 1, []), (.ireturn, 1, [])])]
abbrev M_X12_end : Md := (185, 12, 2, (some .boolean), P_X12_end)
theorem ok_X12_end : k_okM M_X12_end := by unfold k_okM; decide +kernel
def P_X12_here : CB := [(0, [(.aload_n 0, 1, []), (.getfield 155, 3, [12, 6, 0]), (.aload_n 0, 1, []), (.getfield 152, 3, [12, 5, 0]), (.if_icmp .ge 15, 3, [1]), (.aload_n 0, 1, []), (.getfield 18, 3, [12, 4, 1]), (.aload_n 0, 1, []), (.getfield 155, 3, [12, 6, 0]), (.iaload, 1, []), (.goto 4, 3, [2])]),
  (23, [(.iconst (-1), 1, []), (.nop, 0, [2])]),
  (24, [(.ireturn, 1, [])])]
abbrev M_X12_here : Md := (186, 12, 1, (some .int), P_X12_here)
theorem ok_X12_here : k_okM M_X12_here := by unfold k_okM; decide +kernel
def P_X12_look : CB := [(0, [(.aload_n 0, 1, []), (.invokevirtual 158, 3, [186, 1, 12]), (.bipush 32, 2, []), (.if_icmp .ne 16, 3, [1]), (.aload_n 0, 1, []), (.dup, 1, []), (.getfield 155, 3, [12, 6, 0]), (.iconst 1, 1, []), (.iadd, 1, []), (.putfield 155, 3, [12, 6, 0]), (.goto (-19), 3, [0])]),
  (22, [(.aload_n 0, 1, []), (.invokevirtual 158, 3, [186, 1, 12]), (.ireturn, 1, [])])]
abbrev M_X12_look : Md := (187, 12, 1, (some .int), P_X12_look)
theorem ok_X12_look : k_okM M_X12_look := by unfold k_okM; decide +kernel
def P_X12_bad : CB := [(0, [(.aload_n 0, 1, []), (.aload_n 0, 1, []), (.getfield 162, 3, [12, 7, 0]), (.iconst (-1), 1, []), (.if_icmp .ne 10, 3, [1]), (.aload_n 0, 1, []), (.getfield 155, 3, [12, 6, 0]), (.goto 7, 3, [2])]),
  (16, [(.aload_n 0, 1, []), (.getfield 162, 3, [12, 7, 0]), (.nop, 0, [2])]),
  (20, [(.putfield 162, 3, [12, 7, 0]), (.return_, 1, [])])]
abbrev M_X12_bad : Md := (188, 12, 1, none, P_X12_bad)
theorem ok_X12_bad : k_okM M_X12_bad := by unfold k_okM; decide +kernel
def P_X12_isDigit : CB := [(0, [(.iload_n 0, 1, []), (.bipush 48, 2, []), (.if_icmp .lt 13, 3, [1]), (.iload_n 0, 1, []), (.bipush 57, 2, []), (.if_icmp .gt 7, 3, [1]), (.iconst 1, 1, []), (.goto 4, 3, [2])]),
  (16, [(.iconst 0, 1, []), (.nop, 0, [2])]),
  (17, [(.ireturn, 1, [])])]
abbrev M_X12_isDigit : Md := (189, 12, 1, (some .boolean), P_X12_isDigit)
theorem ok_X12_isDigit : k_okM M_X12_isDigit := by unfold k_okM; decide +kernel
def P_X12_number : CB := [(0, [(.aload_n 0, 1, []), (.invokevirtual 165, 3, [187, 1, 12]), (.invokestatic 168, 3, [189, 1]), (.ifCond .ne 9, 3, [1]), (.aload_n 0, 1, []), (.invokevirtual 172, 3, [188, 1, 12]), (.iload_n 1, 1, []), (.ireturn, 1, [])]),
  (16, [(.aload_n 0, 1, []), (.invokevirtual 158, 3, [186, 1, 12]), (.bipush 48, 2, []), (.isub, 1, []), (.istore_n 3, 1, []), (.aload_n 0, 1, []), (.dup, 1, []), (.getfield 155, 3, [12, 6, 0]), (.iconst 1, 1, []), (.iadd, 1, []), (.putfield 155, 3, [12, 6, 0]), (.aload_n 0, 1, []), (.invokevirtual 158, 3, [186, 1, 12]), (.invokestatic 168, 3, [189, 1]), (.ifCond .eq 26, 3, [2]), (.bipush 10, 2, []), (.iload_n 3, 1, []), (.imul, 1, []), (.aload_n 0, 1, []), (.invokevirtual 158, 3, [186, 1, 12]), (.iadd, 1, []), (.bipush 48, 2, []), (.isub, 1, []), (.istore_n 3, 1, []), (.aload_n 0, 1, []), (.dup, 1, []), (.getfield 155, 3, [12, 6, 0]), (.iconst 1, 1, []), (.iadd, 1, []), (.putfield 155, 3, [12, 6, 0]), (.nop, 0, [2])]),
  (67, [(.iload_n 3, 1, []), (.iload_n 1, 1, []), (.iload_n 2, 1, []), (.invokestatic 175, 3, [179, 3]), (.ifCond .ne 19, 3, [3]), (.aload_n 0, 1, []), (.dup, 1, []), (.getfield 155, 3, [12, 6, 0]), (.iconst 1, 1, []), (.isub, 1, []), (.putfield 155, 3, [12, 6, 0]), (.aload_n 0, 1, []), (.invokevirtual 172, 3, [188, 1, 12]), (.iload_n 1, 1, []), (.ireturn, 1, [])]),
  (92, [(.aload_n 0, 1, []), (.invokevirtual 158, 3, [186, 1, 12]), (.invokestatic 168, 3, [189, 1]), (.ifCond .eq 7, 3, [4]), (.aload_n 0, 1, []), (.invokevirtual 172, 3, [188, 1, 12]), (.nop, 0, [4])]),
  (106, [(.iload_n 3, 1, []), (.ireturn, 1, [])])]
abbrev M_X12_number : Md := (190, 12, 4, (some .int), P_X12_number)
theorem ok_X12_number : k_okM M_X12_number := by unfold k_okM; decide +kernel
def P_X12_letterAt : CB := [(0, [(.iload_n 1, 1, []), (.bipush 115, 2, []), (.if_icmp .ne 7, 3, [1]), (.iconst 1, 1, []), (.goto 46, 3, [6])]),
  (10, [(.iload_n 1, 1, []), (.bipush 118, 2, []), (.if_icmp .ne 7, 3, [2]), (.iconst 2, 1, []), (.goto 36, 3, [6])]),
  (20, [(.iload_n 1, 1, []), (.bipush 98, 2, []), (.if_icmp .ne 7, 3, [3]), (.iconst 4, 1, []), (.goto 26, 3, [6])]),
  (30, [(.iload_n 1, 1, []), (.bipush 99, 2, []), (.if_icmp .ne 8, 3, [4]), (.bipush 8, 2, []), (.goto 15, 3, [6])]),
  (41, [(.iload_n 1, 1, []), (.bipush 108, 2, []), (.if_icmp .ne 8, 3, [5]), (.bipush 16, 2, []), (.goto 4, 3, [6])]),
  (52, [(.iconst 0, 1, []), (.nop, 0, [6])]),
  (53, [(.ireturn, 1, [])])]
abbrev M_X12_letterAt : Md := (191, 12, 2, (some .int), P_X12_letterAt)
theorem ok_X12_letterAt : k_okM M_X12_letterAt := by unfold k_okM; decide +kernel
def P_X12_setting : CB := [(0, [(.aload_n 0, 1, []), (.invokevirtual 165, 3, [187, 1, 12]), (.istore_n 2, 1, []), (.aload_n 0, 1, []), (.iload_n 2, 1, []), (.invokevirtual 179, 3, [191, 2, 12]), (.istore_n 3, 1, []), (.iload_n 3, 1, []), (.ifCond .eq 12, 3, [1]), (.aload_n 0, 1, []), (.getfield 183, 3, [12, 14, 0]), (.iload_n 3, 1, []), (.iand, 1, []), (.ifCond .eq 8, 3, [2]), (.nop, 0, [1])]),
  (24, [(.aload_n 0, 1, []), (.invokevirtual 172, 3, [188, 1, 12]), (.return_, 1, [])]),
  (29, [(.aload_n 0, 1, []), (.dup, 1, []), (.getfield 183, 3, [12, 14, 0]), (.iload_n 3, 1, []), (.ior, 1, []), (.putfield 183, 3, [12, 14, 0]), (.aload_n 0, 1, []), (.dup, 1, []), (.getfield 155, 3, [12, 6, 0]), (.iconst 1, 1, []), (.iadd, 1, []), (.putfield 155, 3, [12, 6, 0]), (.iload_n 2, 1, []), (.bipush 115, 2, []), (.if_icmp .ne 19, 3, [3]), (.aload_n 0, 1, []), (.getfield 22, 3, [12, 8, 1]), (.iload_n 1, 1, []), (.aload_n 0, 1, []), (.iconst 1, 1, []), (.bipush 9, 2, []), (.invokevirtual 186, 3, [190, 3, 12]), (.iastore, 1, []), (.goto 73, 3, [7])]),
  (71, [(.iload_n 2, 1, []), (.bipush 118, 2, []), (.if_icmp .ne 19, 3, [4]), (.aload_n 0, 1, []), (.getfield 25, 3, [12, 9, 1]), (.iload_n 1, 1, []), (.aload_n 0, 1, []), (.iconst 0, 1, []), (.bipush 99, 2, []), (.invokevirtual 186, 3, [190, 3, 12]), (.iastore, 1, []), (.goto 51, 3, [7])]),
  (93, [(.iload_n 2, 1, []), (.bipush 98, 2, []), (.if_icmp .ne 19, 3, [5]), (.aload_n 0, 1, []), (.getfield 28, 3, [12, 10, 1]), (.iload_n 1, 1, []), (.aload_n 0, 1, []), (.iconst 0, 1, []), (.bipush 99, 2, []), (.invokevirtual 186, 3, [190, 3, 12]), (.iastore, 1, []), (.goto 29, 3, [7])]),
  (115, [(.iload_n 2, 1, []), (.bipush 99, 2, []), (.if_icmp .ne 18, 3, [6]), (.aload_n 0, 1, []), (.getfield 31, 3, [12, 11, 1]), (.iload_n 1, 1, []), (.aload_n 0, 1, []), (.iconst 0, 1, []), (.iconst 2, 1, []), (.invokevirtual 186, 3, [190, 3, 12]), (.iastore, 1, []), (.goto 8, 3, [7])]),
  (136, [(.aload_n 0, 1, []), (.iload_n 1, 1, []), (.invokevirtual 189, 3, [193, 2, 12]), (.nop, 0, [7])]),
  (141, [(.return_, 1, [])])]
abbrev M_X12_setting : Md := (192, 12, 4, none, P_X12_setting)
theorem ok_X12_setting : k_okM M_X12_setting := by unfold k_okM; decide +kernel
def P_X12_readLayers : CB := [(0, [(.iconst 0, 1, []), (.istore_n 2, 1, []), (.nop, 0, [1])]),
  (2, [(.aload_n 0, 1, []), (.getfield 162, 3, [12, 7, 0]), (.iconst (-1), 1, []), (.if_icmp .ne 64, 3, [5]), (.aload_n 0, 1, []), (.invokevirtual 165, 3, [187, 1, 12]), (.invokestatic 168, 3, [189, 1]), (.ifCond .eq 54, 3, [5]), (.aload_n 0, 1, []), (.invokevirtual 158, 3, [186, 1, 12]), (.bipush 48, 2, []), (.isub, 1, []), (.istore_n 3, 1, []), (.iload_n 3, 1, []), (.aload_n 0, 1, []), (.getfield 142, 3, [12, 3, 0]), (.if_icmp .ge 12, 3, [2]), (.iload_n 2, 1, []), (.iload_n 3, 1, []), (.ishr, 1, []), (.iconst 1, 1, []), (.iand, 1, []), (.iconst 1, 1, []), (.if_icmp .ne 10, 3, [3]), (.nop, 0, [2])]),
  (45, [(.aload_n 0, 1, []), (.invokevirtual 172, 3, [188, 1, 12]), (.goto 19, 3, [4])]),
  (52, [(.iload_n 2, 1, []), (.iconst 1, 1, []), (.iload_n 3, 1, []), (.ishl, 1, []), (.ior, 1, []), (.istore_n 2, 1, []), (.aload_n 0, 1, []), (.dup, 1, []), (.getfield 155, 3, [12, 6, 0]), (.iconst 1, 1, []), (.iadd, 1, []), (.putfield 155, 3, [12, 6, 0]), (.nop, 0, [4])]),
  (68, [(.goto (-66), 3, [1])]),
  (71, [(.iload_n 2, 1, []), (.ifCond .ne 7, 3, [6]), (.aload_n 0, 1, []), (.invokevirtual 172, 3, [188, 1, 12]), (.nop, 0, [6])]),
  (79, [(.aload_n 0, 1, []), (.getfield 34, 3, [12, 12, 1]), (.iload_n 1, 1, []), (.iload_n 2, 1, []), (.iastore, 1, []), (.return_, 1, [])])]
abbrev M_X12_readLayers : Md := (193, 12, 4, none, P_X12_readLayers)
theorem ok_X12_readLayers : k_okM M_X12_readLayers := by unfold k_okM; decide +kernel
def P_X12_readSort : CB := [(0, [(.aload_n 0, 1, []), (.iconst 0, 1, []), (.putfield 155, 3, [12, 6, 0]), (.aload_n 0, 1, []), (.iconst (-1), 1, []), (.putfield 162, 3, [12, 7, 0]), (.aload_n 0, 1, []), (.iconst 0, 1, []), (.putfield 183, 3, [12, 14, 0]), (.aload_n 0, 1, []), (.getfield 22, 3, [12, 8, 1]), (.iload_n 1, 1, []), (.iconst 1, 1, []), (.iastore, 1, []), (.aload_n 0, 1, []), (.getfield 25, 3, [12, 9, 1]), (.iload_n 1, 1, []), (.iconst 5, 1, []), (.iastore, 1, []), (.aload_n 0, 1, []), (.getfield 28, 3, [12, 10, 1]), (.iload_n 1, 1, []), (.iconst 0, 1, []), (.iastore, 1, []), (.aload_n 0, 1, []), (.getfield 31, 3, [12, 11, 1]), (.iload_n 1, 1, []), (.iconst 0, 1, []), (.iastore, 1, []), (.aload_n 0, 1, []), (.getfield 34, 3, [12, 12, 1]), (.iload_n 1, 1, []), (.iconst 1, 1, []), (.aload_n 0, 1, []), (.getfield 142, 3, [12, 3, 0]), (.ishl, 1, []), (.iconst 1, 1, []), (.isub, 1, []), (.iastore, 1, []), (.aload_n 0, 1, []), (.iload_n 1, 1, []), (.invokevirtual 193, 3, [192, 2, 12]), (.nop, 0, [1])]),
  (62, [(.aload_n 0, 1, []), (.getfield 162, 3, [12, 7, 0]), (.iconst (-1), 1, []), (.if_icmp .ne 30, 3, [2]), (.aload_n 0, 1, []), (.invokevirtual 165, 3, [187, 1, 12]), (.bipush 44, 2, []), (.if_icmp .ne 21, 3, [2]), (.aload_n 0, 1, []), (.dup, 1, []), (.getfield 155, 3, [12, 6, 0]), (.iconst 1, 1, []), (.iadd, 1, []), (.putfield 155, 3, [12, 6, 0]), (.aload_n 0, 1, []), (.iload_n 1, 1, []), (.invokevirtual 193, 3, [192, 2, 12]), (.goto (-32), 3, [1])]),
  (97, [(.aload_n 0, 1, []), (.getfield 162, 3, [12, 7, 0]), (.iconst (-1), 1, []), (.if_icmp .ne 15, 3, [3]), (.aload_n 0, 1, []), (.invokevirtual 165, 3, [187, 1, 12]), (.iconst (-1), 1, []), (.if_icmp .eq 7, 3, [3]), (.aload_n 0, 1, []), (.invokevirtual 172, 3, [188, 1, 12]), (.nop, 0, [3])]),
  (117, [(.aload_n 0, 1, []), (.getfield 162, 3, [12, 7, 0]), (.ireturn, 1, [])])]
abbrev M_X12_readSort : Md := (194, 12, 2, (some .int), P_X12_readSort)
theorem ok_X12_readSort : k_okM M_X12_readSort := by unfold k_okM; decide +kernel
def P_X12_fault : CB := [(0, [(.aload_n 0, 1, []), (.bipush 6, 2, []), (.invokevirtual 196, 3, [194, 2, 12]), (.ireturn, 1, [])])]
abbrev M_X12_fault : Md := (195, 12, 1, (some .int), P_X12_fault)
theorem ok_X12_fault : k_okM M_X12_fault := by unfold k_okM; decide +kernel
def P_X12_sort : CB := [(0, [(.aload_n 0, 1, []), (.getfield 199, 3, [12, 13, 0]), (.bipush 6, 2, []), (.if_icmp .eq 15, 3, [1]), (.aload_n 0, 1, []), (.aload_n 0, 1, []), (.getfield 199, 3, [12, 13, 0]), (.invokevirtual 196, 3, [194, 2, 12]), (.iconst (-1), 1, []), (.if_icmp .eq 5, 3, [2]), (.nop, 0, [1])]),
  (21, [(.iconst (-1), 1, []), (.ireturn, 1, [])]),
  (23, [(.aload_n 0, 1, []), (.iconst 0, 1, []), (.putfield 152, 3, [12, 5, 0]), (.aload_n 0, 1, []), (.dup, 1, []), (.getfield 199, 3, [12, 13, 0]), (.iconst 1, 1, []), (.iadd, 1, []), (.putfield 199, 3, [12, 13, 0]), (.aload_n 0, 1, []), (.getfield 199, 3, [12, 13, 0]), (.iconst 1, 1, []), (.isub, 1, []), (.ireturn, 1, [])])]
abbrev M_X12_sort : Md := (196, 12, 1, (some .int), P_X12_sort)
theorem ok_X12_sort : k_okM M_X12_sort := by unfold k_okM; decide +kernel
def P_X12_told : CB := [(0, [(.aload_n 0, 1, []), (.iload_n 1, 1, []), (.iconst 0, 1, []), (.aload_n 0, 1, []), (.getfield 199, 3, [12, 13, 0]), (.iconst 1, 1, []), (.isub, 1, []), (.invokestatic 175, 3, [179, 3]), (.ifCond .eq 16, 3, [1]), (.iload_n 2, 1, []), (.iconst 0, 1, []), (.iconst 4, 1, []), (.invokestatic 175, 3, [179, 3]), (.ifCond .eq 7, 3, [1]), (.iconst 0, 1, []), (.goto 4, 3, [2])]),
  (28, [(.iconst 1, 1, []), (.nop, 0, [2])]),
  (29, [(.putfield 145, 3, [12, 0, 0]), (.aload_n 0, 1, []), (.getfield 145, 3, [12, 0, 0]), (.iconst 1, 1, []), (.if_icmp .ne 5, 3, [3]), (.iconst 0, 1, []), (.ireturn, 1, [])]),
  (42, [(.iload_n 2, 1, []), (.ifCond .ne 12, 3, [4]), (.aload_n 0, 1, []), (.getfield 22, 3, [12, 8, 1]), (.iload_n 1, 1, []), (.iaload, 1, []), (.goto 51, 3, [8])]),
  (55, [(.iload_n 2, 1, []), (.iconst 1, 1, []), (.if_icmp .ne 12, 3, [5]), (.aload_n 0, 1, []), (.getfield 25, 3, [12, 9, 1]), (.iload_n 1, 1, []), (.iaload, 1, []), (.goto 37, 3, [8])]),
  (69, [(.iload_n 2, 1, []), (.iconst 2, 1, []), (.if_icmp .ne 12, 3, [6]), (.aload_n 0, 1, []), (.getfield 28, 3, [12, 10, 1]), (.iload_n 1, 1, []), (.iaload, 1, []), (.goto 23, 3, [8])]),
  (83, [(.iload_n 2, 1, []), (.iconst 3, 1, []), (.if_icmp .ne 12, 3, [7]), (.aload_n 0, 1, []), (.getfield 31, 3, [12, 11, 1]), (.iload_n 1, 1, []), (.iaload, 1, []), (.goto 9, 3, [8])]),
  (97, [(.aload_n 0, 1, []), (.getfield 34, 3, [12, 12, 1]), (.iload_n 1, 1, []), (.iaload, 1, []), (.nop, 0, [8])]),
  (103, [(.ireturn, 1, [])])]
abbrev M_X12_told : Md := (197, 12, 3, (some .int), P_X12_told)
theorem ok_X12_told : k_okM M_X12_told := by unfold k_okM; decide +kernel
def P_X12_isNet : CB := [(0, [(.iload_n 1, 1, []), (.iconst 0, 1, []), (.aload_n 0, 1, []), (.getfield 202, 3, [12, 26, 0]), (.iconst 1, 1, []), (.isub, 1, []), (.invokestatic 175, 3, [179, 3]), (.ireturn, 1, [])])]
abbrev M_X12_isNet : Md := (198, 12, 2, (some .boolean), P_X12_isNet)
theorem ok_X12_isNet : k_okM M_X12_isNet := by unfold k_okM; decide +kernel
def P_X12_isCell : CB := [(0, [(.iload_n 1, 1, []), (.iconst 0, 1, []), (.aload_n 0, 1, []), (.getfield 135, 3, [12, 1, 0]), (.iconst 1, 1, []), (.isub, 1, []), (.invokestatic 175, 3, [179, 3]), (.ifCond .eq 35, 3, [1]), (.iload_n 2, 1, []), (.iconst 0, 1, []), (.aload_n 0, 1, []), (.getfield 139, 3, [12, 2, 0]), (.iconst 1, 1, []), (.isub, 1, []), (.invokestatic 175, 3, [179, 3]), (.ifCond .eq 21, 3, [1]), (.iload_n 3, 1, []), (.iconst 0, 1, []), (.aload_n 0, 1, []), (.getfield 142, 3, [12, 3, 0]), (.iconst 1, 1, []), (.isub, 1, []), (.invokestatic 175, 3, [179, 3]), (.ifCond .eq 7, 3, [1]), (.iconst 1, 1, []), (.goto 4, 3, [2])]),
  (46, [(.iconst 0, 1, []), (.nop, 0, [2])]),
  (47, [(.ireturn, 1, [])])]
abbrev M_X12_isCell : Md := (199, 12, 4, (some .boolean), P_X12_isCell)
theorem ok_X12_isCell : k_okM M_X12_isCell := by unfold k_okM; decide +kernel
def P_X12_cell : CB := [(0, [(.bipush 81, 2, []), (.iload_n 2, 1, []), (.imul, 1, []), (.bipush 9, 2, []), (.iload_n 1, 1, []), (.imul, 1, []), (.iadd, 1, []), (.iload_n 0, 1, []), (.iadd, 1, []), (.ireturn, 1, [])])]
abbrev M_X12_cell : Md := (200, 12, 3, (some .int), P_X12_cell)
theorem ok_X12_cell : k_okM M_X12_cell := by unfold k_okM; decide +kernel
def P_X12_xOf : CB := [(0, [(.iload_n 0, 1, []), (.bipush 9, 2, []), (.irem, 1, []), (.ireturn, 1, [])])]
abbrev M_X12_xOf : Md := (201, 12, 1, (some .int), P_X12_xOf)
theorem ok_X12_xOf : k_okM M_X12_xOf := by unfold k_okM; decide +kernel
def P_X12_yOf : CB := [(0, [(.iload_n 0, 1, []), (.bipush 9, 2, []), (.idiv, 1, []), (.bipush 9, 2, []), (.irem, 1, []), (.ireturn, 1, [])])]
abbrev M_X12_yOf : Md := (202, 12, 1, (some .int), P_X12_yOf)
theorem ok_X12_yOf : k_okM M_X12_yOf := by unfold k_okM; decide +kernel
def P_X12_layerOf : CB := [(0, [(.iload_n 0, 1, []), (.bipush 81, 2, []), (.idiv, 1, []), (.ireturn, 1, [])])]
abbrev M_X12_layerOf : Md := (203, 12, 1, (some .int), P_X12_layerOf)
theorem ok_X12_layerOf : k_okM M_X12_layerOf := by unfold k_okM; decide +kernel
def P_X12_moved : CB := [(0, [(.iload_n 1, 1, []), (.invokestatic 205, 3, [201, 1]), (.iload_n 2, 1, []), (.iconst 1, 1, []), (.if_icmp .ne 7, 3, [1]), (.iconst 1, 1, []), (.goto 13, 3, [3])]),
  (13, [(.iload_n 2, 1, []), (.iconst 3, 1, []), (.if_icmp .ne 7, 3, [2]), (.iconst (-1), 1, []), (.goto 4, 3, [3])]),
  (22, [(.iconst 0, 1, []), (.nop, 0, [3])]),
  (23, [(.iadd, 1, []), (.istore_n 3, 1, []), (.iload_n 1, 1, []), (.invokestatic 208, 3, [202, 1]), (.iload_n 2, 1, []), (.iconst 2, 1, []), (.if_icmp .ne 7, 3, [4]), (.iconst 1, 1, []), (.goto 12, 3, [6])]),
  (38, [(.iload_n 2, 1, []), (.ifCond .ne 7, 3, [5]), (.iconst (-1), 1, []), (.goto 4, 3, [6])]),
  (46, [(.iconst 0, 1, []), (.nop, 0, [6])]),
  (47, [(.iadd, 1, []), (.istore 4, 2, []), (.iload_n 1, 1, []), (.invokestatic 211, 3, [203, 1]), (.iload_n 2, 1, []), (.iconst 4, 1, []), (.if_icmp .ne 7, 3, [7]), (.iconst 1, 1, []), (.goto 13, 3, [9])]),
  (63, [(.iload_n 2, 1, []), (.iconst 5, 1, []), (.if_icmp .ne 7, 3, [8]), (.iconst (-1), 1, []), (.goto 4, 3, [9])]),
  (72, [(.iconst 0, 1, []), (.nop, 0, [9])]),
  (73, [(.iadd, 1, []), (.istore 5, 2, []), (.aload_n 0, 1, []), (.iload_n 3, 1, []), (.iload 4, 2, []), (.iload 5, 2, []), (.invokevirtual 214, 3, [199, 4, 12]), (.ifCond .eq 14, 3, [10]), (.iload_n 3, 1, []), (.iload 4, 2, []), (.iload 5, 2, []), (.invokestatic 217, 3, [200, 3]), (.goto 4, 3, [11])]),
  (99, [(.iconst (-1), 1, []), (.nop, 0, [11])]),
  (100, [(.ireturn, 1, [])])]
abbrev M_X12_moved : Md := (204, 12, 6, (some .int), P_X12_moved)
theorem ok_X12_moved : k_okM M_X12_moved := by unfold k_okM; decide +kernel
end
section
/-! code as data (written by wip/whole/gencode.py) -/
def P_X12_net : CB := [(0, [(.iload_n 1, 1, []), (.iconst 0, 1, []), (.aload_n 0, 1, []), (.getfield 199, 3, [12, 13, 0]), (.iconst 1, 1, []), (.isub, 1, []), (.invokestatic 175, 3, [179, 3]), (.ifCond .eq 12, 3, [1]), (.aload_n 0, 1, []), (.getfield 202, 3, [12, 26, 0]), (.bipush 8, 2, []), (.if_icmp .ne 5, 3, [2]), (.nop, 0, [1])]),
  (23, [(.iconst (-1), 1, []), (.ireturn, 1, [])]),
  (25, [(.aload_n 0, 1, []), (.getfield 37, 3, [12, 15, 1]), (.aload_n 0, 1, []), (.getfield 202, 3, [12, 26, 0]), (.iload_n 1, 1, []), (.iastore, 1, []), (.aload_n 0, 1, []), (.dup, 1, []), (.getfield 202, 3, [12, 26, 0]), (.iconst 1, 1, []), (.iadd, 1, []), (.putfield 202, 3, [12, 26, 0]), (.aload_n 0, 1, []), (.getfield 202, 3, [12, 26, 0]), (.iconst 1, 1, []), (.isub, 1, []), (.ireturn, 1, [])])]
abbrev M_X12_net : Md := (205, 12, 2, (some .int), P_X12_net)
theorem ok_X12_net : k_okM M_X12_net := by unfold k_okM; decide +kernel
def P_X12_pinOn : CB := [(0, [(.iconst 0, 1, []), (.istore_n 2, 1, []), (.nop, 0, [1])]),
  (2, [(.iload_n 2, 1, []), (.aload_n 0, 1, []), (.getfield 202, 3, [12, 26, 0]), (.if_icmp .ge 47, 3, [5]), (.iconst 0, 1, []), (.istore_n 3, 1, []), (.nop, 0, [2])]),
  (12, [(.iload_n 3, 1, []), (.aload_n 0, 1, []), (.getfield 43, 3, [12, 17, 1]), (.iload_n 2, 1, []), (.iaload, 1, []), (.if_icmp .ge 29, 3, [4]), (.aload_n 0, 1, []), (.getfield 46, 3, [12, 18, 1]), (.iconst 4, 1, []), (.iload_n 2, 1, []), (.imul, 1, []), (.iload_n 3, 1, []), (.iadd, 1, []), (.iaload, 1, []), (.iload_n 1, 1, []), (.if_icmp .ne 9, 3, [3]), (.iconst 4, 1, []), (.iload_n 2, 1, []), (.imul, 1, []), (.iload_n 3, 1, []), (.iadd, 1, []), (.ireturn, 1, [])]),
  (42, [(.iinc 3 1, 3, []), (.goto (-33), 3, [2])]),
  (48, [(.iinc 2 1, 3, []), (.goto (-49), 3, [1])]),
  (54, [(.iconst (-1), 1, []), (.ireturn, 1, [])])]
abbrev M_X12_pinOn : Md := (206, 12, 4, (some .int), P_X12_pinOn)
theorem ok_X12_pinOn : k_okM M_X12_pinOn := by unfold k_okM; decide +kernel
def P_X12_pin : CB := [(0, [(.aload_n 0, 1, []), (.iload_n 1, 1, []), (.invokevirtual 220, 3, [198, 2, 12]), (.ifCond .eq 39, 3, [1]), (.aload_n 0, 1, []), (.iload_n 2, 1, []), (.iload_n 3, 1, []), (.iload 4, 2, []), (.invokevirtual 214, 3, [199, 4, 12]), (.ifCond .eq 28, 3, [1]), (.aload_n 0, 1, []), (.getfield 43, 3, [12, 17, 1]), (.iload_n 1, 1, []), (.iaload, 1, []), (.iconst 4, 1, []), (.if_icmp .eq 18, 3, [1]), (.aload_n 0, 1, []), (.iload_n 2, 1, []), (.iload_n 3, 1, []), (.iload 4, 2, []), (.invokestatic 217, 3, [200, 3]), (.invokevirtual 223, 3, [206, 2, 12]), (.iconst (-1), 1, []), (.if_icmp .eq 5, 3, [2]), (.nop, 0, [1])]),
  (44, [(.iconst (-1), 1, []), (.ireturn, 1, [])]),
  (46, [(.aload_n 0, 1, []), (.getfield 46, 3, [12, 18, 1]), (.iconst 4, 1, []), (.iload_n 1, 1, []), (.imul, 1, []), (.aload_n 0, 1, []), (.getfield 43, 3, [12, 17, 1]), (.iload_n 1, 1, []), (.iaload, 1, []), (.iadd, 1, []), (.iload_n 2, 1, []), (.iload_n 3, 1, []), (.iload 4, 2, []), (.invokestatic 217, 3, [200, 3]), (.iastore, 1, []), (.aload_n 0, 1, []), (.getfield 43, 3, [12, 17, 1]), (.iload_n 1, 1, []), (.dup2, 1, []), (.iaload, 1, []), (.iconst 1, 1, []), (.iadd, 1, []), (.iastore, 1, []), (.aload_n 0, 1, []), (.getfield 71, 3, [12, 27, 1]), (.sipush 324, 3, []), (.iload_n 1, 1, []), (.imul, 1, []), (.iload_n 2, 1, []), (.iload_n 3, 1, []), (.iload 4, 2, []), (.invokestatic 217, 3, [200, 3]), (.iadd, 1, []), (.dup2, 1, []), (.iaload, 1, []), (.iconst 1, 1, []), (.ior, 1, []), (.iastore, 1, []), (.aload_n 0, 1, []), (.getfield 43, 3, [12, 17, 1]), (.iload_n 1, 1, []), (.iaload, 1, []), (.iconst 1, 1, []), (.isub, 1, []), (.ireturn, 1, [])])]
abbrev M_X12_pin : Md := (207, 12, 5, (some .int), P_X12_pin)
theorem ok_X12_pin : k_okM M_X12_pin := by unfold k_okM; decide +kernel
def P_X12_keep : CB := [(0, [(.aload_n 0, 1, []), (.iload_n 1, 1, []), (.iload_n 2, 1, []), (.iconst 0, 1, []), (.invokevirtual 214, 3, [199, 4, 12]), (.ifCond .eq 40, 3, [1]), (.aload_n 0, 1, []), (.iload_n 3, 1, []), (.iload 4, 2, []), (.iconst 0, 1, []), (.invokevirtual 214, 3, [199, 4, 12]), (.ifCond .eq 29, 3, [1]), (.iload_n 3, 1, []), (.iload_n 1, 1, []), (.if_icmp .lt 24, 3, [1]), (.iload 4, 2, []), (.iload_n 2, 1, []), (.if_icmp .lt 18, 3, [1]), (.iload 5, 2, []), (.ifCond .le 13, 3, [1]), (.iload 5, 2, []), (.aload_n 0, 1, []), (.getfield 142, 3, [12, 3, 0]), (.ishr, 1, []), (.ifCond .eq 5, 3, [2]), (.nop, 0, [1])]),
  (47, [(.iconst 0, 1, []), (.ireturn, 1, [])]),
  (49, [(.iconst 0, 1, []), (.istore 6, 2, []), (.nop, 0, [3])]),
  (52, [(.iload 6, 2, []), (.aload_n 0, 1, []), (.getfield 142, 3, [12, 3, 0]), (.if_icmp .ge 87, 3, [11]), (.iload_n 2, 1, []), (.istore 7, 2, []), (.nop, 0, [4])]),
  (64, [(.iload 7, 2, []), (.iload 4, 2, []), (.if_icmp .gt 71, 3, [10]), (.iload_n 1, 1, []), (.istore 8, 2, []), (.nop, 0, [5])]),
  (74, [(.iload 8, 2, []), (.iload_n 3, 1, []), (.if_icmp .gt 56, 3, [9]), (.aload_n 0, 1, []), (.getfield 67, 3, [12, 25, 1]), (.iload 8, 2, []), (.iload 7, 2, []), (.iload 6, 2, []), (.invokestatic 217, 3, [200, 3]), (.aload_n 0, 1, []), (.getfield 67, 3, [12, 25, 1]), (.iload 8, 2, []), (.iload 7, 2, []), (.iload 6, 2, []), (.invokestatic 217, 3, [200, 3]), (.baload, 1, []), (.ifCond .ne 14, 3, [6]), (.iload 5, 2, []), (.iload 6, 2, []), (.ishr, 1, []), (.iconst 1, 1, []), (.iand, 1, []), (.iconst 1, 1, []), (.if_icmp .ne 7, 3, [7]), (.nop, 0, [6])]),
  (121, [(.iconst 1, 1, []), (.goto 4, 3, [8])]),
  (125, [(.iconst 0, 1, []), (.nop, 0, [8])]),
  (126, [(.bastore, 1, []), (.iinc 8 1, 3, []), (.goto (-56), 3, [5])]),
  (133, [(.iinc 7 1, 3, []), (.goto (-72), 3, [4])]),
  (139, [(.iinc 6 1, 3, []), (.goto (-90), 3, [3])]),
  (145, [(.iconst 1, 1, []), (.ireturn, 1, [])])]
abbrev M_X12_keep : Md := (208, 12, 9, (some .boolean), P_X12_keep)
theorem ok_X12_keep : k_okM M_X12_keep := by unfold k_okM; decide +kernel
def P_X12_hasWire : CB := [(0, [(.iconst 0, 1, []), (.istore 4, 2, []), (.nop, 0, [1])]),
  (3, [(.iload 4, 2, []), (.aload_n 0, 1, []), (.getfield 49, 3, [12, 19, 1]), (.iload_n 1, 1, []), (.iaload, 1, []), (.if_icmp .ge 45, 3, [3]), (.aload_n 0, 1, []), (.getfield 52, 3, [12, 20, 1]), (.sipush 1200, 3, []), (.iload_n 1, 1, []), (.imul, 1, []), (.iload 4, 2, []), (.iadd, 1, []), (.iaload, 1, []), (.iload_n 2, 1, []), (.if_icmp .ne 22, 3, [2]), (.aload_n 0, 1, []), (.getfield 55, 3, [12, 21, 1]), (.sipush 1200, 3, []), (.iload_n 1, 1, []), (.imul, 1, []), (.iload 4, 2, []), (.iadd, 1, []), (.iaload, 1, []), (.iload_n 3, 1, []), (.if_icmp .ne 5, 3, [2]), (.iconst 1, 1, []), (.ireturn, 1, [])]),
  (50, [(.iinc 4 1, 3, []), (.goto (-50), 3, [1])]),
  (56, [(.iconst 0, 1, []), (.ireturn, 1, [])])]
abbrev M_X12_hasWire : Md := (209, 12, 5, (some .boolean), P_X12_hasWire)
theorem ok_X12_hasWire : k_okM M_X12_hasWire := by unfold k_okM; decide +kernel
def P_X12_addWire : CB := [(0, [(.iload_n 2, 1, []), (.iload_n 3, 1, []), (.invokestatic 3, 3, [1]), (.istore 4, 2, []), (.iload_n 2, 1, []), (.iload_n 3, 1, []), (.invokestatic 9, 3, [0]), (.istore 5, 2, []), (.aload_n 0, 1, []), (.iload_n 1, 1, []), (.iload 4, 2, []), (.iload 5, 2, []), (.invokevirtual 226, 3, [209, 4, 12]), (.ifCond .ne 51, 3, [1]), (.aload_n 0, 1, []), (.getfield 52, 3, [12, 20, 1]), (.sipush 1200, 3, []), (.iload_n 1, 1, []), (.imul, 1, []), (.aload_n 0, 1, []), (.getfield 49, 3, [12, 19, 1]), (.iload_n 1, 1, []), (.iaload, 1, []), (.iadd, 1, []), (.iload 4, 2, []), (.iastore, 1, []), (.aload_n 0, 1, []), (.getfield 55, 3, [12, 21, 1]), (.sipush 1200, 3, []), (.iload_n 1, 1, []), (.imul, 1, []), (.aload_n 0, 1, []), (.getfield 49, 3, [12, 19, 1]), (.iload_n 1, 1, []), (.iaload, 1, []), (.iadd, 1, []), (.iload 5, 2, []), (.iastore, 1, []), (.aload_n 0, 1, []), (.getfield 49, 3, [12, 19, 1]), (.iload_n 1, 1, []), (.dup2, 1, []), (.iaload, 1, []), (.iconst 1, 1, []), (.iadd, 1, []), (.iastore, 1, []), (.nop, 0, [1])]),
  (74, [(.aload_n 0, 1, []), (.getfield 71, 3, [12, 27, 1]), (.sipush 324, 3, []), (.iload_n 1, 1, []), (.imul, 1, []), (.iload_n 2, 1, []), (.iadd, 1, []), (.dup2, 1, []), (.iaload, 1, []), (.iconst 1, 1, []), (.ior, 1, []), (.iastore, 1, []), (.aload_n 0, 1, []), (.getfield 71, 3, [12, 27, 1]), (.sipush 324, 3, []), (.iload_n 1, 1, []), (.imul, 1, []), (.iload_n 3, 1, []), (.iadd, 1, []), (.dup2, 1, []), (.iaload, 1, []), (.iconst 1, 1, []), (.ior, 1, []), (.iastore, 1, []), (.return_, 1, [])])]
abbrev M_X12_addWire : Md := (210, 12, 6, none, P_X12_addWire)
theorem ok_X12_addWire : k_okM M_X12_addWire := by unfold k_okM; decide +kernel
def P_X12_wire : CB := [(0, [(.aload_n 0, 1, []), (.iload_n 1, 1, []), (.invokevirtual 220, 3, [198, 2, 12]), (.ifCond .eq 52, 3, [5]), (.aload_n 0, 1, []), (.iload_n 2, 1, []), (.iload_n 3, 1, []), (.iload 6, 2, []), (.invokevirtual 214, 3, [199, 4, 12]), (.ifCond .eq 41, 3, [5]), (.aload_n 0, 1, []), (.iload 4, 2, []), (.iload 5, 2, []), (.iload 6, 2, []), (.invokevirtual 214, 3, [199, 4, 12]), (.ifCond .eq 28, 3, [5]), (.iload_n 2, 1, []), (.iload 4, 2, []), (.if_icmp .ne 7, 3, [1]), (.iconst 1, 1, []), (.goto 4, 3, [2])]),
  (42, [(.iconst 0, 1, []), (.nop, 0, [2])]),
  (43, [(.iload_n 3, 1, []), (.iload 5, 2, []), (.if_icmp .ne 7, 3, [3]), (.iconst 1, 1, []), (.goto 4, 3, [4])]),
  (53, [(.iconst 0, 1, []), (.nop, 0, [4])]),
  (54, [(.if_icmp .ne 5, 3, [6]), (.nop, 0, [5])]),
  (57, [(.iconst 0, 1, []), (.ireturn, 1, [])]),
  (59, [(.iload 4, 2, []), (.iload_n 2, 1, []), (.if_icmp .le 7, 3, [7]), (.iconst 1, 1, []), (.goto 24, 3, [10])]),
  (69, [(.iload 4, 2, []), (.iload_n 2, 1, []), (.if_icmp .ge 7, 3, [8]), (.iconst 3, 1, []), (.goto 14, 3, [10])]),
  (79, [(.iload 5, 2, []), (.iload_n 3, 1, []), (.if_icmp .le 7, 3, [9]), (.iconst 2, 1, []), (.goto 4, 3, [10])]),
  (89, [(.iconst 0, 1, []), (.nop, 0, [10])]),
  (90, [(.istore 7, 2, []), (.iload_n 2, 1, []), (.iload_n 3, 1, []), (.iload 6, 2, []), (.invokestatic 217, 3, [200, 3]), (.istore 8, 2, []), (.nop, 0, [11])]),
  (101, [(.iload 8, 2, []), (.iload 4, 2, []), (.iload 5, 2, []), (.iload 6, 2, []), (.invokestatic 217, 3, [200, 3]), (.if_icmp .eq 29, 3, [12]), (.aload_n 0, 1, []), (.iload 8, 2, []), (.iload 7, 2, []), (.invokevirtual 229, 3, [204, 3, 12]), (.istore 9, 2, []), (.aload_n 0, 1, []), (.iload_n 1, 1, []), (.iload 8, 2, []), (.iload 9, 2, []), (.invokevirtual 232, 3, [210, 4, 12]), (.iload 9, 2, []), (.istore 8, 2, []), (.goto (-37), 3, [11])]),
  (141, [(.iconst 1, 1, []), (.ireturn, 1, [])])]
abbrev M_X12_wire : Md := (211, 12, 10, (some .boolean), P_X12_wire)
theorem ok_X12_wire : k_okM M_X12_wire := by unfold k_okM; decide +kernel
def P_X12_hole : CB := [(0, [(.aload_n 0, 1, []), (.iload_n 1, 1, []), (.invokevirtual 220, 3, [198, 2, 12]), (.ifCond .eq 27, 3, [1]), (.aload_n 0, 1, []), (.iload_n 2, 1, []), (.iload_n 3, 1, []), (.iload 4, 2, []), (.invokevirtual 214, 3, [199, 4, 12]), (.ifCond .eq 16, 3, [1]), (.aload_n 0, 1, []), (.iload_n 2, 1, []), (.iload_n 3, 1, []), (.iload 4, 2, []), (.iconst 1, 1, []), (.iadd, 1, []), (.invokevirtual 214, 3, [199, 4, 12]), (.ifCond .ne 5, 3, [2]), (.nop, 0, [1])]),
  (32, [(.iconst 0, 1, []), (.ireturn, 1, [])]),
  (34, [(.aload_n 0, 1, []), (.iload_n 1, 1, []), (.iload_n 2, 1, []), (.iload_n 3, 1, []), (.iload 4, 2, []), (.invokestatic 217, 3, [200, 3]), (.iload_n 2, 1, []), (.iload_n 3, 1, []), (.iload 4, 2, []), (.iconst 1, 1, []), (.iadd, 1, []), (.invokestatic 217, 3, [200, 3]), (.invokevirtual 232, 3, [210, 4, 12]), (.iconst 1, 1, []), (.ireturn, 1, [])])]
abbrev M_X12_hole : Md := (212, 12, 5, (some .boolean), P_X12_hole)
theorem ok_X12_hole : k_okM M_X12_hole := by unfold k_okM; decide +kernel
def P_X12_has : CB := [(0, [(.aload_n 0, 1, []), (.getfield 71, 3, [12, 27, 1]), (.sipush 324, 3, []), (.iload_n 1, 1, []), (.imul, 1, []), (.iload_n 2, 1, []), (.iadd, 1, []), (.iaload, 1, []), (.ifCond .eq 7, 3, [1]), (.iconst 1, 1, []), (.goto 4, 3, [2])]),
  (19, [(.iconst 0, 1, []), (.nop, 0, [2])]),
  (20, [(.ireturn, 1, [])])]
abbrev M_X12_has : Md := (213, 12, 3, (some .boolean), P_X12_has)
theorem ok_X12_has : k_okM M_X12_has := by unfold k_okM; decide +kernel
def P_X12_copper : CB := [(0, [(.aload_n 0, 1, []), (.iload_n 1, 1, []), (.iload_n 2, 1, []), (.iload_n 3, 1, []), (.invokevirtual 214, 3, [199, 4, 12]), (.ifCond .ne 5, 3, [1]), (.iconst (-1), 1, []), (.ireturn, 1, [])]),
  (12, [(.iconst 0, 1, []), (.istore 4, 2, []), (.iconst 0, 1, []), (.istore 5, 2, []), (.nop, 0, [2])]),
  (18, [(.iload 5, 2, []), (.aload_n 0, 1, []), (.getfield 202, 3, [12, 26, 0]), (.if_icmp .ge 37, 3, [5]), (.iload 4, 2, []), (.aload_n 0, 1, []), (.iload 5, 2, []), (.iload_n 1, 1, []), (.iload_n 2, 1, []), (.iload_n 3, 1, []), (.invokestatic 217, 3, [200, 3]), (.invokevirtual 236, 3, [213, 3, 12]), (.ifCond .eq 10, 3, [3]), (.iconst 1, 1, []), (.iload 5, 2, []), (.ishl, 1, []), (.goto 4, 3, [4])]),
  (51, [(.iconst 0, 1, []), (.nop, 0, [4])]),
  (52, [(.ior, 1, []), (.istore 4, 2, []), (.iinc 5 1, 3, []), (.goto (-40), 3, [2])]),
  (61, [(.iload 4, 2, []), (.ireturn, 1, [])])]
abbrev M_X12_copper : Md := (214, 12, 6, (some .int), P_X12_copper)
theorem ok_X12_copper : k_okM M_X12_copper := by unfold k_okM; decide +kernel
def P_X12_counts : CB := [(0, [(.aload_n 0, 1, []), (.getfield 240, 3, [12, 28, 0]), (.iload_n 1, 1, []), (.ishr, 1, []), (.iconst 1, 1, []), (.iand, 1, []), (.ifCond .ne 22, 3, [2]), (.aload_n 0, 1, []), (.getfield 243, 3, [12, 30, 2]), (.ifCond .eq 11, 3, [1]), (.iload_n 1, 1, []), (.aload_n 0, 1, []), (.getfield 247, 3, [12, 29, 0]), (.if_icmp .ne 7, 3, [2]), (.nop, 0, [1])]),
  (26, [(.iconst 1, 1, []), (.goto 4, 3, [3])]),
  (30, [(.iconst 0, 1, []), (.nop, 0, [3])]),
  (31, [(.istore_n 3, 1, []), (.aload_n 0, 1, []), (.getfield 71, 3, [12, 27, 1]), (.sipush 324, 3, []), (.iload_n 1, 1, []), (.imul, 1, []), (.iload_n 2, 1, []), (.iadd, 1, []), (.iaload, 1, []), (.iload_n 3, 1, []), (.ifCond .eq 8, 3, [4]), (.bipush 7, 2, []), (.goto 4, 3, [5])]),
  (53, [(.iconst 5, 1, []), (.nop, 0, [5])]),
  (54, [(.iand, 1, []), (.ifCond .eq 7, 3, [6]), (.iconst 1, 1, []), (.goto 4, 3, [7])]),
  (62, [(.iconst 0, 1, []), (.nop, 0, [7])]),
  (63, [(.ireturn, 1, [])])]
abbrev M_X12_counts : Md := (215, 12, 4, (some .boolean), P_X12_counts)
theorem ok_X12_counts : k_okM M_X12_counts := by unfold k_okM; decide +kernel
def P_X12_apart : CB := [(0, [(.aload_n 0, 1, []), (.getfield 31, 3, [12, 11, 1]), (.aload_n 0, 1, []), (.getfield 37, 3, [12, 15, 1]), (.iload_n 1, 1, []), (.iaload, 1, []), (.iaload, 1, []), (.aload_n 0, 1, []), (.getfield 31, 3, [12, 11, 1]), (.aload_n 0, 1, []), (.getfield 37, 3, [12, 15, 1]), (.iload_n 2, 1, []), (.iaload, 1, []), (.iaload, 1, []), (.invokestatic 9, 3, [0]), (.ireturn, 1, [])])]
abbrev M_X12_apart : Md := (216, 12, 3, (some .int), P_X12_apart)
theorem ok_X12_apart : k_okM M_X12_apart := by unfold k_okM; decide +kernel
def P_X12_isNear : CB := [(0, [(.iconst 0, 1, []), (.iload_n 2, 1, []), (.invokestatic 208, 3, [202, 1]), (.iload_n 3, 1, []), (.isub, 1, []), (.invokestatic 9, 3, [0]), (.istore 4, 2, []), (.nop, 0, [1])]),
  (12, [(.iload 4, 2, []), (.aload_n 0, 1, []), (.getfield 139, 3, [12, 2, 0]), (.iconst 1, 1, []), (.isub, 1, []), (.iload_n 2, 1, []), (.invokestatic 208, 3, [202, 1]), (.iload_n 3, 1, []), (.iadd, 1, []), (.invokestatic 3, 3, [1]), (.if_icmp .gt 68, 3, [5]), (.iconst 0, 1, []), (.iload_n 2, 1, []), (.invokestatic 205, 3, [201, 1]), (.iload_n 3, 1, []), (.isub, 1, []), (.invokestatic 9, 3, [0]), (.istore 5, 2, []), (.nop, 0, [2])]),
  (44, [(.iload 5, 2, []), (.aload_n 0, 1, []), (.getfield 135, 3, [12, 1, 0]), (.iconst 1, 1, []), (.isub, 1, []), (.iload_n 2, 1, []), (.invokestatic 205, 3, [201, 1]), (.iload_n 3, 1, []), (.iadd, 1, []), (.invokestatic 3, 3, [1]), (.if_icmp .gt 30, 3, [4]), (.aload_n 0, 1, []), (.iload_n 1, 1, []), (.iload 5, 2, []), (.iload 4, 2, []), (.iload_n 2, 1, []), (.invokestatic 211, 3, [203, 1]), (.invokestatic 217, 3, [200, 3]), (.invokevirtual 250, 3, [215, 3, 12]), (.ifCond .eq 5, 3, [3]), (.iconst 1, 1, []), (.ireturn, 1, [])]),
  (85, [(.iinc 5 1, 3, []), (.goto (-44), 3, [2])]),
  (91, [(.iinc 4 1, 3, []), (.goto (-82), 3, [1])]),
  (97, [(.iconst 0, 1, []), (.ireturn, 1, [])])]
abbrev M_X12_isNear : Md := (217, 12, 6, (some .boolean), P_X12_isNear)
theorem ok_X12_isNear : k_okM M_X12_isNear := by unfold k_okM; decide +kernel
def P_X12_isFree : CB := [(0, [(.aload_n 0, 1, []), (.iload_n 1, 1, []), (.iload_n 2, 1, []), (.invokevirtual 250, 3, [215, 3, 12]), (.ifCond .eq 5, 3, [1]), (.iconst 1, 1, []), (.ireturn, 1, [])]),
  (11, [(.aload_n 0, 1, []), (.getfield 67, 3, [12, 25, 1]), (.iload_n 2, 1, []), (.baload, 1, []), (.ifCond .ne 28, 3, [2]), (.iload_n 3, 1, []), (.ifCond .ne 26, 3, [3]), (.aload_n 0, 1, []), (.getfield 34, 3, [12, 12, 1]), (.aload_n 0, 1, []), (.getfield 37, 3, [12, 15, 1]), (.iload_n 1, 1, []), (.iaload, 1, []), (.iaload, 1, []), (.iload_n 2, 1, []), (.invokestatic 211, 3, [203, 1]), (.ishr, 1, []), (.iconst 1, 1, []), (.iand, 1, []), (.ifCond .ne 5, 3, [3]), (.nop, 0, [2])]),
  (45, [(.iconst 0, 1, []), (.ireturn, 1, [])]),
  (47, [(.iconst 0, 1, []), (.istore 4, 2, []), (.nop, 0, [4])]),
  (50, [(.iload 4, 2, []), (.aload_n 0, 1, []), (.getfield 202, 3, [12, 26, 0]), (.if_icmp .ge 34, 3, [6]), (.iload 4, 2, []), (.iload_n 1, 1, []), (.if_icmp .eq 22, 3, [5]), (.aload_n 0, 1, []), (.iload 4, 2, []), (.iload_n 2, 1, []), (.aload_n 0, 1, []), (.iload_n 1, 1, []), (.iload 4, 2, []), (.invokevirtual 253, 3, [216, 3, 12]), (.invokevirtual 256, 3, [217, 4, 12]), (.ifCond .eq 5, 3, [5]), (.iconst 0, 1, []), (.ireturn, 1, [])]),
  (84, [(.iinc 4 1, 3, []), (.goto (-37), 3, [4])]),
  (90, [(.iconst 1, 1, []), (.ireturn, 1, [])])]
abbrev M_X12_isFree : Md := (218, 12, 5, (some .boolean), P_X12_isFree)
theorem ok_X12_isFree : k_okM M_X12_isFree := by unfold k_okM; decide +kernel
def P_X12_free : CB := [(0, [(.aload_n 0, 1, []), (.iload_n 1, 1, []), (.invokevirtual 220, 3, [198, 2, 12]), (.ifCond .eq 38, 3, [2]), (.aload_n 0, 1, []), (.iload_n 2, 1, []), (.iload_n 3, 1, []), (.iload 4, 2, []), (.invokevirtual 214, 3, [199, 4, 12]), (.ifCond .eq 27, 3, [2]), (.aload_n 0, 1, []), (.iload_n 1, 1, []), (.iload_n 2, 1, []), (.iload_n 3, 1, []), (.iload 4, 2, []), (.invokestatic 217, 3, [200, 3]), (.iconst 0, 1, []), (.invokevirtual 259, 3, [218, 4, 12]), (.ifCond .eq 7, 3, [1]), (.iconst 1, 1, []), (.goto 8, 3, [3])]),
  (39, [(.iconst 0, 1, []), (.goto 4, 3, [3])]),
  (43, [(.iconst (-1), 1, []), (.nop, 0, [3])]),
  (44, [(.ireturn, 1, [])])]
abbrev M_X12_free : Md := (219, 12, 5, (some .int), P_X12_free)
theorem ok_X12_free : k_okM M_X12_free := by unfold k_okM; decide +kernel
end
section
/-! code as data (written by wip/whole/gencode.py) -/
def P_X12_paint : CB := [(0, [(.iconst 0, 1, []), (.istore_n 2, 1, []), (.nop, 0, [1])]),
  (2, [(.iload_n 2, 1, []), (.sipush 324, 3, []), (.if_icmp .ge 25, 3, [2]), (.aload_n 0, 1, []), (.getfield 71, 3, [12, 27, 1]), (.sipush 324, 3, []), (.iload_n 1, 1, []), (.imul, 1, []), (.iload_n 2, 1, []), (.iadd, 1, []), (.dup2, 1, []), (.iaload, 1, []), (.iconst 5, 1, []), (.iand, 1, []), (.iastore, 1, []), (.iinc 2 1, 3, []), (.goto (-26), 3, [1])]),
  (31, [(.iconst 0, 1, []), (.istore_n 2, 1, []), (.nop, 0, [3])]),
  (33, [(.iload_n 2, 1, []), (.aload_n 0, 1, []), (.getfield 58, 3, [12, 22, 1]), (.iload_n 1, 1, []), (.iaload, 1, []), (.if_icmp .ge 63, 3, [4]), (.aload_n 0, 1, []), (.getfield 71, 3, [12, 27, 1]), (.sipush 324, 3, []), (.iload_n 1, 1, []), (.imul, 1, []), (.aload_n 0, 1, []), (.getfield 61, 3, [12, 23, 1]), (.sipush 2400, 3, []), (.iload_n 1, 1, []), (.imul, 1, []), (.iload_n 2, 1, []), (.iadd, 1, []), (.iaload, 1, []), (.iadd, 1, []), (.dup2, 1, []), (.iaload, 1, []), (.iconst 2, 1, []), (.ior, 1, []), (.iastore, 1, []), (.aload_n 0, 1, []), (.getfield 71, 3, [12, 27, 1]), (.sipush 324, 3, []), (.iload_n 1, 1, []), (.imul, 1, []), (.aload_n 0, 1, []), (.getfield 64, 3, [12, 24, 1]), (.sipush 2400, 3, []), (.iload_n 1, 1, []), (.imul, 1, []), (.iload_n 2, 1, []), (.iadd, 1, []), (.iaload, 1, []), (.iadd, 1, []), (.dup2, 1, []), (.iaload, 1, []), (.iconst 2, 1, []), (.ior, 1, []), (.iastore, 1, []), (.iinc 2 1, 3, []), (.goto (-67), 3, [3])]),
  (103, [(.return_, 1, [])])]
abbrev M_X12_paint : Md := (220, 12, 3, none, P_X12_paint)
theorem ok_X12_paint : k_okM M_X12_paint := by unfold k_okM; decide +kernel
def P_X12_takeOff : CB := [(0, [(.aload_n 0, 1, []), (.aload_n 0, 1, []), (.getfield 58, 3, [12, 22, 1]), (.iload_n 1, 1, []), (.iaload, 1, []), (.putfield 263, 3, [12, 33, 0]), (.iconst 0, 1, []), (.istore_n 2, 1, []), (.nop, 0, [1])]),
  (12, [(.iload_n 2, 1, []), (.aload_n 0, 1, []), (.getfield 263, 3, [12, 33, 0]), (.if_icmp .ge 45, 3, [2]), (.aload_n 0, 1, []), (.getfield 74, 3, [12, 31, 1]), (.iload_n 2, 1, []), (.aload_n 0, 1, []), (.getfield 61, 3, [12, 23, 1]), (.sipush 2400, 3, []), (.iload_n 1, 1, []), (.imul, 1, []), (.iload_n 2, 1, []), (.iadd, 1, []), (.iaload, 1, []), (.iastore, 1, []), (.aload_n 0, 1, []), (.getfield 77, 3, [12, 32, 1]), (.iload_n 2, 1, []), (.aload_n 0, 1, []), (.getfield 64, 3, [12, 24, 1]), (.sipush 2400, 3, []), (.iload_n 1, 1, []), (.imul, 1, []), (.iload_n 2, 1, []), (.iadd, 1, []), (.iaload, 1, []), (.iastore, 1, []), (.iinc 2 1, 3, []), (.goto (-47), 3, [1])]),
  (62, [(.aload_n 0, 1, []), (.getfield 58, 3, [12, 22, 1]), (.iload_n 1, 1, []), (.iconst 0, 1, []), (.iastore, 1, []), (.aload_n 0, 1, []), (.iload_n 1, 1, []), (.invokevirtual 266, 3, [220, 2, 12]), (.return_, 1, [])])]
abbrev M_X12_takeOff : Md := (221, 12, 3, none, P_X12_takeOff)
theorem ok_X12_takeOff : k_okM M_X12_takeOff := by unfold k_okM; decide +kernel
def P_X12_putBack : CB := [(0, [(.aload_n 0, 1, []), (.getfield 58, 3, [12, 22, 1]), (.iload_n 1, 1, []), (.aload_n 0, 1, []), (.getfield 263, 3, [12, 33, 0]), (.iastore, 1, []), (.iconst 0, 1, []), (.istore_n 2, 1, []), (.nop, 0, [1])]),
  (12, [(.iload_n 2, 1, []), (.aload_n 0, 1, []), (.getfield 263, 3, [12, 33, 0]), (.if_icmp .ge 45, 3, [2]), (.aload_n 0, 1, []), (.getfield 61, 3, [12, 23, 1]), (.sipush 2400, 3, []), (.iload_n 1, 1, []), (.imul, 1, []), (.iload_n 2, 1, []), (.iadd, 1, []), (.aload_n 0, 1, []), (.getfield 74, 3, [12, 31, 1]), (.iload_n 2, 1, []), (.iaload, 1, []), (.iastore, 1, []), (.aload_n 0, 1, []), (.getfield 64, 3, [12, 24, 1]), (.sipush 2400, 3, []), (.iload_n 1, 1, []), (.imul, 1, []), (.iload_n 2, 1, []), (.iadd, 1, []), (.aload_n 0, 1, []), (.getfield 77, 3, [12, 32, 1]), (.iload_n 2, 1, []), (.iaload, 1, []), (.iastore, 1, []), (.iinc 2 1, 3, []), (.goto (-47), 3, [1])]),
  (62, [(.aload_n 0, 1, []), (.iload_n 1, 1, []), (.invokevirtual 266, 3, [220, 2, 12]), (.return_, 1, [])])]
abbrev M_X12_putBack : Md := (222, 12, 3, none, P_X12_putBack)
theorem ok_X12_putBack : k_okM M_X12_putBack := by unfold k_okM; decide +kernel
def P_X12_addTrace : CB := [(0, [(.aload_n 0, 1, []), (.getfield 61, 3, [12, 23, 1]), (.sipush 2400, 3, []), (.iload_n 1, 1, []), (.imul, 1, []), (.aload_n 0, 1, []), (.getfield 58, 3, [12, 22, 1]), (.iload_n 1, 1, []), (.iaload, 1, []), (.iadd, 1, []), (.iload_n 2, 1, []), (.iastore, 1, []), (.aload_n 0, 1, []), (.getfield 64, 3, [12, 24, 1]), (.sipush 2400, 3, []), (.iload_n 1, 1, []), (.imul, 1, []), (.aload_n 0, 1, []), (.getfield 58, 3, [12, 22, 1]), (.iload_n 1, 1, []), (.iaload, 1, []), (.iadd, 1, []), (.iload_n 3, 1, []), (.iastore, 1, []), (.aload_n 0, 1, []), (.getfield 58, 3, [12, 22, 1]), (.iload_n 1, 1, []), (.dup2, 1, []), (.iaload, 1, []), (.iconst 1, 1, []), (.iadd, 1, []), (.iastore, 1, []), (.aload_n 0, 1, []), (.getfield 71, 3, [12, 27, 1]), (.sipush 324, 3, []), (.iload_n 1, 1, []), (.imul, 1, []), (.iload_n 2, 1, []), (.iadd, 1, []), (.dup2, 1, []), (.iaload, 1, []), (.iconst 2, 1, []), (.ior, 1, []), (.iastore, 1, []), (.aload_n 0, 1, []), (.getfield 71, 3, [12, 27, 1]), (.sipush 324, 3, []), (.iload_n 1, 1, []), (.imul, 1, []), (.iload_n 3, 1, []), (.iadd, 1, []), (.dup2, 1, []), (.iaload, 1, []), (.iconst 2, 1, []), (.ior, 1, []), (.iastore, 1, []), (.return_, 1, [])])]
abbrev M_X12_addTrace : Md := (223, 12, 4, none, P_X12_addTrace)
theorem ok_X12_addTrace : k_okM M_X12_addTrace := by unfold k_okM; decide +kernel
def P_X12_takeAllOff : CB := [(0, [(.iconst 0, 1, []), (.istore_n 1, 1, []), (.nop, 0, [1])]),
  (2, [(.iload_n 1, 1, []), (.aload_n 0, 1, []), (.getfield 202, 3, [12, 26, 0]), (.if_icmp .ge 87, 3, [4]), (.aload_n 0, 1, []), (.getfield 86, 3, [12, 36, 1]), (.iload_n 1, 1, []), (.aload_n 0, 1, []), (.getfield 58, 3, [12, 22, 1]), (.iload_n 1, 1, []), (.iaload, 1, []), (.iastore, 1, []), (.iconst 0, 1, []), (.istore_n 2, 1, []), (.nop, 0, [2])]),
  (24, [(.iload_n 2, 1, []), (.aload_n 0, 1, []), (.getfield 58, 3, [12, 22, 1]), (.iload_n 1, 1, []), (.iaload, 1, []), (.if_icmp .ge 57, 3, [3]), (.aload_n 0, 1, []), (.getfield 80, 3, [12, 34, 1]), (.sipush 2400, 3, []), (.iload_n 1, 1, []), (.imul, 1, []), (.iload_n 2, 1, []), (.iadd, 1, []), (.aload_n 0, 1, []), (.getfield 61, 3, [12, 23, 1]), (.sipush 2400, 3, []), (.iload_n 1, 1, []), (.imul, 1, []), (.iload_n 2, 1, []), (.iadd, 1, []), (.iaload, 1, []), (.iastore, 1, []), (.aload_n 0, 1, []), (.getfield 83, 3, [12, 35, 1]), (.sipush 2400, 3, []), (.iload_n 1, 1, []), (.imul, 1, []), (.iload_n 2, 1, []), (.iadd, 1, []), (.aload_n 0, 1, []), (.getfield 64, 3, [12, 24, 1]), (.sipush 2400, 3, []), (.iload_n 1, 1, []), (.imul, 1, []), (.iload_n 2, 1, []), (.iadd, 1, []), (.iaload, 1, []), (.iastore, 1, []), (.iinc 2 1, 3, []), (.goto (-61), 3, [2])]),
  (88, [(.iinc 1 1, 3, []), (.goto (-89), 3, [1])]),
  (94, [(.return_, 1, [])])]
abbrev M_X12_takeAllOff : Md := (224, 12, 3, none, P_X12_takeAllOff)
theorem ok_X12_takeAllOff : k_okM M_X12_takeAllOff := by unfold k_okM; decide +kernel
def P_X12_ripAll : CB := [(0, [(.iconst 0, 1, []), (.istore_n 1, 1, []), (.nop, 0, [1])]),
  (2, [(.iload_n 1, 1, []), (.aload_n 0, 1, []), (.getfield 202, 3, [12, 26, 0]), (.if_icmp .ge 21, 3, [2]), (.aload_n 0, 1, []), (.getfield 58, 3, [12, 22, 1]), (.iload_n 1, 1, []), (.iconst 0, 1, []), (.iastore, 1, []), (.aload_n 0, 1, []), (.iload_n 1, 1, []), (.invokevirtual 266, 3, [220, 2, 12]), (.iinc 1 1, 3, []), (.goto (-23), 3, [1])]),
  (28, [(.return_, 1, [])])]
abbrev M_X12_ripAll : Md := (225, 12, 2, none, P_X12_ripAll)
theorem ok_X12_ripAll : k_okM M_X12_ripAll := by unfold k_okM; decide +kernel
def P_X12_putAllBack : CB := [(0, [(.iconst 0, 1, []), (.istore_n 1, 1, []), (.nop, 0, [1])]),
  (2, [(.iload_n 1, 1, []), (.aload_n 0, 1, []), (.getfield 202, 3, [12, 26, 0]), (.if_icmp .ge 92, 3, [4]), (.aload_n 0, 1, []), (.getfield 58, 3, [12, 22, 1]), (.iload_n 1, 1, []), (.aload_n 0, 1, []), (.getfield 86, 3, [12, 36, 1]), (.iload_n 1, 1, []), (.iaload, 1, []), (.iastore, 1, []), (.iconst 0, 1, []), (.istore_n 2, 1, []), (.nop, 0, [2])]),
  (24, [(.iload_n 2, 1, []), (.aload_n 0, 1, []), (.getfield 58, 3, [12, 22, 1]), (.iload_n 1, 1, []), (.iaload, 1, []), (.if_icmp .ge 57, 3, [3]), (.aload_n 0, 1, []), (.getfield 61, 3, [12, 23, 1]), (.sipush 2400, 3, []), (.iload_n 1, 1, []), (.imul, 1, []), (.iload_n 2, 1, []), (.iadd, 1, []), (.aload_n 0, 1, []), (.getfield 80, 3, [12, 34, 1]), (.sipush 2400, 3, []), (.iload_n 1, 1, []), (.imul, 1, []), (.iload_n 2, 1, []), (.iadd, 1, []), (.iaload, 1, []), (.iastore, 1, []), (.aload_n 0, 1, []), (.getfield 64, 3, [12, 24, 1]), (.sipush 2400, 3, []), (.iload_n 1, 1, []), (.imul, 1, []), (.iload_n 2, 1, []), (.iadd, 1, []), (.aload_n 0, 1, []), (.getfield 83, 3, [12, 35, 1]), (.sipush 2400, 3, []), (.iload_n 1, 1, []), (.imul, 1, []), (.iload_n 2, 1, []), (.iadd, 1, []), (.iaload, 1, []), (.iastore, 1, []), (.iinc 2 1, 3, []), (.goto (-61), 3, [2])]),
  (88, [(.aload_n 0, 1, []), (.iload_n 1, 1, []), (.invokevirtual 266, 3, [220, 2, 12]), (.iinc 1 1, 3, []), (.goto (-94), 3, [1])]),
  (99, [(.return_, 1, [])])]
abbrev M_X12_putAllBack : Md := (226, 12, 3, none, P_X12_putAllBack)
theorem ok_X12_putAllBack : k_okM M_X12_putAllBack := by unfold k_okM; decide +kernel
def P_X12_joins : CB := [(0, [(.aload_n 0, 1, []), (.getfield 89, 3, [12, 37, 1]), (.iload_n 1, 1, []), (.baload, 1, []), (.aload_n 0, 1, []), (.getfield 89, 3, [12, 37, 1]), (.iload_n 2, 1, []), (.baload, 1, []), (.if_icmp .eq 7, 3, [1]), (.iconst 1, 1, []), (.goto 4, 3, [2])]),
  (19, [(.iconst 0, 1, []), (.nop, 0, [2])]),
  (20, [(.istore_n 3, 1, []), (.aload_n 0, 1, []), (.getfield 89, 3, [12, 37, 1]), (.iload_n 1, 1, []), (.aload_n 0, 1, []), (.getfield 89, 3, [12, 37, 1]), (.iload_n 1, 1, []), (.baload, 1, []), (.ifCond .ne 7, 3, [3]), (.iload_n 3, 1, []), (.ifCond .eq 7, 3, [4]), (.nop, 0, [3])]),
  (39, [(.iconst 1, 1, []), (.goto 4, 3, [5])]),
  (43, [(.iconst 0, 1, []), (.nop, 0, [5])]),
  (44, [(.bastore, 1, []), (.aload_n 0, 1, []), (.getfield 89, 3, [12, 37, 1]), (.iload_n 2, 1, []), (.aload_n 0, 1, []), (.getfield 89, 3, [12, 37, 1]), (.iload_n 2, 1, []), (.baload, 1, []), (.ifCond .ne 7, 3, [6]), (.iload_n 3, 1, []), (.ifCond .eq 7, 3, [7]), (.nop, 0, [6])]),
  (63, [(.iconst 1, 1, []), (.goto 4, 3, [8])]),
  (67, [(.iconst 0, 1, []), (.nop, 0, [8])]),
  (68, [(.bastore, 1, []), (.iload_n 3, 1, []), (.ireturn, 1, [])])]
abbrev M_X12_joins : Md := (227, 12, 4, (some .boolean), P_X12_joins)
theorem ok_X12_joins : k_okM M_X12_joins := by unfold k_okM; decide +kernel
def P_X12_join : CB := [(0, [(.iconst 0, 1, []), (.istore_n 3, 1, []), (.nop, 0, [1])]),
  (2, [(.iload_n 3, 1, []), (.sipush 324, 3, []), (.if_icmp .ge 25, 3, [4]), (.aload_n 0, 1, []), (.getfield 89, 3, [12, 37, 1]), (.iload_n 3, 1, []), (.iload_n 3, 1, []), (.iload_n 2, 1, []), (.if_icmp .ne 7, 3, [2]), (.iconst 1, 1, []), (.goto 4, 3, [3])]),
  (23, [(.iconst 0, 1, []), (.nop, 0, [3])]),
  (24, [(.bastore, 1, []), (.iinc 3 1, 3, []), (.goto (-26), 3, [1])]),
  (31, [(.iconst 1, 1, []), (.istore_n 3, 1, []), (.nop, 0, [5])]),
  (33, [(.iload_n 3, 1, []), (.ifCond .eq 134, 3, [16]), (.iconst 0, 1, []), (.istore_n 3, 1, []), (.iconst 0, 1, []), (.istore 4, 2, []), (.nop, 0, [6])]),
  (42, [(.iload 4, 2, []), (.aload_n 0, 1, []), (.getfield 49, 3, [12, 19, 1]), (.iload_n 1, 1, []), (.iaload, 1, []), (.if_icmp .ge 52, 3, [10]), (.aload_n 0, 1, []), (.aload_n 0, 1, []), (.getfield 52, 3, [12, 20, 1]), (.sipush 1200, 3, []), (.iload_n 1, 1, []), (.imul, 1, []), (.iload 4, 2, []), (.iadd, 1, []), (.iaload, 1, []), (.aload_n 0, 1, []), (.getfield 55, 3, [12, 21, 1]), (.sipush 1200, 3, []), (.iload_n 1, 1, []), (.imul, 1, []), (.iload 4, 2, []), (.iadd, 1, []), (.iaload, 1, []), (.invokevirtual 269, 3, [227, 3, 12]), (.ifCond .ne 7, 3, [7]), (.iload_n 3, 1, []), (.ifCond .eq 7, 3, [8]), (.nop, 0, [7])]),
  (90, [(.iconst 1, 1, []), (.goto 4, 3, [9])]),
  (94, [(.iconst 0, 1, []), (.nop, 0, [9])]),
  (95, [(.istore_n 3, 1, []), (.iinc 4 1, 3, []), (.goto (-57), 3, [6])]),
  (102, [(.iconst 0, 1, []), (.istore 4, 2, []), (.nop, 0, [11])]),
  (105, [(.iload 4, 2, []), (.aload_n 0, 1, []), (.getfield 58, 3, [12, 22, 1]), (.iload_n 1, 1, []), (.iaload, 1, []), (.if_icmp .ge 52, 3, [15]), (.aload_n 0, 1, []), (.aload_n 0, 1, []), (.getfield 61, 3, [12, 23, 1]), (.sipush 2400, 3, []), (.iload_n 1, 1, []), (.imul, 1, []), (.iload 4, 2, []), (.iadd, 1, []), (.iaload, 1, []), (.aload_n 0, 1, []), (.getfield 64, 3, [12, 24, 1]), (.sipush 2400, 3, []), (.iload_n 1, 1, []), (.imul, 1, []), (.iload 4, 2, []), (.iadd, 1, []), (.iaload, 1, []), (.invokevirtual 269, 3, [227, 3, 12]), (.ifCond .ne 7, 3, [12]), (.iload_n 3, 1, []), (.ifCond .eq 7, 3, [13]), (.nop, 0, [12])]),
  (153, [(.iconst 1, 1, []), (.goto 4, 3, [14])]),
  (157, [(.iconst 0, 1, []), (.nop, 0, [14])]),
  (158, [(.istore_n 3, 1, []), (.iinc 4 1, 3, []), (.goto (-57), 3, [11])]),
  (165, [(.goto (-132), 3, [5])]),
  (168, [(.return_, 1, [])])]
abbrev M_X12_join : Md := (228, 12, 5, none, P_X12_join)
theorem ok_X12_join : k_okM M_X12_join := by unfold k_okM; decide +kernel
def P_X12_costOf : CB := [(0, [(.aload_n 0, 1, []), (.getfield 37, 3, [12, 15, 1]), (.iload_n 1, 1, []), (.iaload, 1, []), (.istore 5, 2, []), (.iload_n 2, 1, []), (.iconst 3, 1, []), (.if_icmp .le 13, 3, [1]), (.aload_n 0, 1, []), (.getfield 25, 3, [12, 9, 1]), (.iload 5, 2, []), (.iaload, 1, []), (.goto 32, 3, [4])]),
  (23, [(.aload_n 0, 1, []), (.getfield 22, 3, [12, 8, 1]), (.iload 5, 2, []), (.iaload, 1, []), (.iload_n 3, 1, []), (.iconst 4, 1, []), (.if_icmp .ge 18, 3, [2]), (.iload_n 3, 1, []), (.iload_n 2, 1, []), (.if_icmp .eq 13, 3, [2]), (.aload_n 0, 1, []), (.getfield 28, 3, [12, 10, 1]), (.iload 5, 2, []), (.iaload, 1, []), (.goto 4, 3, [3])]),
  (50, [(.iconst 0, 1, []), (.nop, 0, [3])]),
  (51, [(.iadd, 1, []), (.nop, 0, [4])]),
  (52, [(.istore 6, 2, []), (.sipush 1000, 3, []), (.iload 6, 2, []), (.aload_n 0, 1, []), (.getfield 98, 3, [12, 40, 1]), (.iload 4, 2, []), (.iaload, 1, []), (.iadd, 1, []), (.imul, 1, []), (.iconst 1, 1, []), (.iadd, 1, []), (.ireturn, 1, [])])]
abbrev M_X12_costOf : Md := (229, 12, 7, (some .int), P_X12_costOf)
theorem ok_X12_costOf : k_okM M_X12_costOf := by unfold k_okM; decide +kernel
def P_X12_bestFrom : CB := [(0, [(.ldc_w 272, 3, [1000000000]), (.istore 4, 2, []), (.iconst 0, 1, []), (.istore 5, 2, []), (.nop, 0, [1])]),
  (8, [(.iload 5, 2, []), (.aload_n 0, 1, []), (.getfield 273, 3, [12, 41, 2]), (.ifCond .eq 8, 3, [2]), (.bipush 6, 2, []), (.goto 4, 3, [3])]),
  (22, [(.iconst 4, 1, []), (.nop, 0, [3])]),
  (23, [(.if_icmp .ge 96, 3, [7]), (.aload_n 0, 1, []), (.iload_n 2, 1, []), (.iload 5, 2, []), (.invokevirtual 229, 3, [204, 3, 12]), (.istore 6, 2, []), (.iload 5, 2, []), (.iconst 4, 1, []), (.if_icmp .ge 8, 3, [4]), (.iload 5, 2, []), (.goto 4, 3, [5])]),
  (46, [(.iload_n 3, 1, []), (.nop, 0, [5])]),
  (47, [(.istore 7, 2, []), (.iload 6, 2, []), (.iconst (-1), 1, []), (.if_icmp .eq 61, 3, [6]), (.aload_n 0, 1, []), (.getfield 95, 3, [12, 39, 1]), (.iload 6, 2, []), (.baload, 1, []), (.ifCond .eq 51, 3, [6]), (.aload_n 0, 1, []), (.getfield 92, 3, [12, 38, 1]), (.iconst 5, 1, []), (.iload 6, 2, []), (.imul, 1, []), (.iload 7, 2, []), (.iadd, 1, []), (.iaload, 1, []), (.ldc_w 272, 3, [1000000000]), (.if_icmp .ge 33, 3, [6]), (.iload 4, 2, []), (.aload_n 0, 1, []), (.iload_n 1, 1, []), (.iload 5, 2, []), (.iload_n 3, 1, []), (.iload 6, 2, []), (.invokevirtual 276, 3, [229, 5, 12]), (.aload_n 0, 1, []), (.getfield 92, 3, [12, 38, 1]), (.iconst 5, 1, []), (.iload 6, 2, []), (.imul, 1, []), (.iload 7, 2, []), (.iadd, 1, []), (.iaload, 1, []), (.iadd, 1, []), (.invokestatic 3, 3, [1]), (.istore 4, 2, []), (.nop, 0, [6])]),
  (113, [(.iinc 5 1, 3, []), (.goto (-108), 3, [1])]),
  (119, [(.iload 4, 2, []), (.ireturn, 1, [])])]
abbrev M_X12_bestFrom : Md := (230, 12, 8, (some .int), P_X12_bestFrom)
theorem ok_X12_bestFrom : k_okM M_X12_bestFrom := by unfold k_okM; decide +kernel
def P_X12_relax : CB := [(0, [(.iconst 0, 1, []), (.istore_n 3, 1, []), (.aload_n 0, 1, []), (.getfield 89, 3, [12, 37, 1]), (.iload_n 2, 1, []), (.baload, 1, []), (.ifCond .ne 12, 3, [1]), (.aload_n 0, 1, []), (.getfield 95, 3, [12, 39, 1]), (.iload_n 2, 1, []), (.baload, 1, []), (.ifCond .ne 5, 3, [2]), (.nop, 0, [1])]),
  (20, [(.iconst 0, 1, []), (.ireturn, 1, [])]),
  (22, [(.iconst 0, 1, []), (.istore 4, 2, []), (.nop, 0, [3])]),
  (25, [(.iload 4, 2, []), (.iconst 5, 1, []), (.if_icmp .ge 50, 3, [5]), (.aload_n 0, 1, []), (.iload_n 1, 1, []), (.iload_n 2, 1, []), (.iload 4, 2, []), (.invokevirtual 280, 3, [230, 4, 12]), (.istore 5, 2, []), (.iload 5, 2, []), (.aload_n 0, 1, []), (.getfield 92, 3, [12, 38, 1]), (.iconst 5, 1, []), (.iload_n 2, 1, []), (.imul, 1, []), (.iload 4, 2, []), (.iadd, 1, []), (.iaload, 1, []), (.if_icmp .ge 18, 3, [4]), (.aload_n 0, 1, []), (.getfield 92, 3, [12, 38, 1]), (.iconst 5, 1, []), (.iload_n 2, 1, []), (.imul, 1, []), (.iload 4, 2, []), (.iadd, 1, []), (.iload 5, 2, []), (.iastore, 1, []), (.iconst 1, 1, []), (.istore_n 3, 1, []), (.nop, 0, [4])]),
  (72, [(.iinc 4 1, 3, []), (.goto (-50), 3, [3])]),
  (78, [(.iload_n 3, 1, []), (.ireturn, 1, [])])]
abbrev M_X12_relax : Md := (231, 12, 6, (some .boolean), P_X12_relax)
theorem ok_X12_relax : k_okM M_X12_relax := by unfold k_okM; decide +kernel
end
section
/-! code as data (written by wip/whole/gencode.py) -/
def P_X12_weigh : CB := [(0, [(.iconst 0, 1, []), (.istore_n 2, 1, []), (.nop, 0, [1])]),
  (2, [(.iload_n 2, 1, []), (.sipush 324, 3, []), (.if_icmp .ge 97, 3, [8]), (.aload_n 0, 1, []), (.iload_n 2, 1, []), (.invokestatic 205, 3, [201, 1]), (.iload_n 2, 1, []), (.invokestatic 208, 3, [202, 1]), (.iload_n 2, 1, []), (.invokestatic 211, 3, [203, 1]), (.invokevirtual 214, 3, [199, 4, 12]), (.istore_n 3, 1, []), (.aload_n 0, 1, []), (.getfield 95, 3, [12, 39, 1]), (.iload_n 2, 1, []), (.iload_n 3, 1, []), (.ifCond .eq 17, 3, [2]), (.aload_n 0, 1, []), (.iload_n 1, 1, []), (.iload_n 2, 1, []), (.iconst 0, 1, []), (.invokevirtual 259, 3, [218, 4, 12]), (.ifCond .eq 7, 3, [2]), (.iconst 1, 1, []), (.goto 4, 3, [3])]),
  (49, [(.iconst 0, 1, []), (.nop, 0, [3])]),
  (50, [(.bastore, 1, []), (.iconst 0, 1, []), (.istore 4, 2, []), (.nop, 0, [4])]),
  (54, [(.iload 4, 2, []), (.iconst 5, 1, []), (.if_icmp .ge 40, 3, [7]), (.aload_n 0, 1, []), (.getfield 92, 3, [12, 38, 1]), (.iconst 5, 1, []), (.iload_n 2, 1, []), (.imul, 1, []), (.iload 4, 2, []), (.iadd, 1, []), (.iload_n 3, 1, []), (.ifCond .eq 16, 3, [5]), (.aload_n 0, 1, []), (.getfield 89, 3, [12, 37, 1]), (.iload_n 2, 1, []), (.baload, 1, []), (.ifCond .eq 7, 3, [5]), (.iconst 0, 1, []), (.goto 6, 3, [6])]),
  (87, [(.ldc_w 272, 3, [1000000000]), (.nop, 0, [6])]),
  (90, [(.iastore, 1, []), (.iinc 4 1, 3, []), (.goto (-40), 3, [4])]),
  (97, [(.iinc 2 1, 3, []), (.goto (-98), 3, [1])]),
  (103, [(.iconst 1, 1, []), (.istore_n 2, 1, []), (.nop, 0, [9])]),
  (105, [(.iload_n 2, 1, []), (.ifCond .eq 75, 3, [20]), (.iconst 0, 1, []), (.istore_n 2, 1, []), (.iconst 0, 1, []), (.istore_n 3, 1, []), (.nop, 0, [10])]),
  (113, [(.iload_n 3, 1, []), (.sipush 324, 3, []), (.if_icmp .ge 28, 3, [14]), (.aload_n 0, 1, []), (.iload_n 1, 1, []), (.iload_n 3, 1, []), (.invokevirtual 283, 3, [231, 3, 12]), (.ifCond .ne 7, 3, [11]), (.iload_n 2, 1, []), (.ifCond .eq 7, 3, [12]), (.nop, 0, [11])]),
  (133, [(.iconst 1, 1, []), (.goto 4, 3, [13])]),
  (137, [(.iconst 0, 1, []), (.nop, 0, [13])]),
  (138, [(.istore_n 2, 1, []), (.iinc 3 1, 3, []), (.goto (-29), 3, [10])]),
  (145, [(.sipush 323, 3, []), (.istore_n 3, 1, []), (.nop, 0, [15])]),
  (149, [(.iload_n 3, 1, []), (.ifCond .lt 28, 3, [19]), (.aload_n 0, 1, []), (.iload_n 1, 1, []), (.iload_n 3, 1, []), (.invokevirtual 283, 3, [231, 3, 12]), (.ifCond .ne 7, 3, [16]), (.iload_n 2, 1, []), (.ifCond .eq 7, 3, [17]), (.nop, 0, [16])]),
  (166, [(.iconst 1, 1, []), (.goto 4, 3, [18])]),
  (170, [(.iconst 0, 1, []), (.nop, 0, [18])]),
  (171, [(.istore_n 2, 1, []), (.iinc 3 (-1), 3, []), (.goto (-26), 3, [15])]),
  (178, [(.goto (-73), 3, [9])]),
  (181, [(.return_, 1, [])])]
abbrev M_X12_weigh : Md := (232, 12, 5, none, P_X12_weigh)
theorem ok_X12_weigh : k_okM M_X12_weigh := by unfold k_okM; decide +kernel
def P_X12_leads : CB := [(0, [(.aload_n 0, 1, []), (.iload_n 2, 1, []), (.iload 4, 2, []), (.invokevirtual 229, 3, [204, 3, 12]), (.istore 5, 2, []), (.iload 5, 2, []), (.iconst (-1), 1, []), (.if_icmp .eq 13, 3, [1]), (.aload_n 0, 1, []), (.getfield 95, 3, [12, 39, 1]), (.iload 5, 2, []), (.baload, 1, []), (.ifCond .ne 5, 3, [2]), (.nop, 0, [1])]),
  (25, [(.iconst 0, 1, []), (.ireturn, 1, [])]),
  (27, [(.aload_n 0, 1, []), (.getfield 92, 3, [12, 38, 1]), (.iconst 5, 1, []), (.iload 5, 2, []), (.imul, 1, []), (.iload 4, 2, []), (.iconst 4, 1, []), (.if_icmp .ge 8, 3, [3]), (.iload 4, 2, []), (.goto 4, 3, [4])]),
  (46, [(.iload_n 3, 1, []), (.nop, 0, [4])]),
  (47, [(.iadd, 1, []), (.iaload, 1, []), (.istore 6, 2, []), (.iload 6, 2, []), (.ldc_w 272, 3, [1000000000]), (.if_icmp .ge 33, 3, [5]), (.aload_n 0, 1, []), (.iload_n 1, 1, []), (.iload 4, 2, []), (.iload_n 3, 1, []), (.iload 5, 2, []), (.invokevirtual 276, 3, [229, 5, 12]), (.iload 6, 2, []), (.iadd, 1, []), (.aload_n 0, 1, []), (.getfield 92, 3, [12, 38, 1]), (.iconst 5, 1, []), (.iload_n 2, 1, []), (.imul, 1, []), (.iload_n 3, 1, []), (.iadd, 1, []), (.iaload, 1, []), (.if_icmp .ne 7, 3, [5]), (.iconst 1, 1, []), (.goto 4, 3, [6])]),
  (89, [(.iconst 0, 1, []), (.nop, 0, [6])]),
  (90, [(.ireturn, 1, [])])]
abbrev M_X12_leads : Md := (233, 12, 7, (some .boolean), P_X12_leads)
theorem ok_X12_leads : k_okM M_X12_leads := by unfold k_okM; decide +kernel
def P_X12_go : CB := [(0, [(.aload_n 0, 1, []), (.iload_n 1, 1, []), (.invokevirtual 286, 3, [232, 2, 12]), (.aload_n 0, 1, []), (.getfield 92, 3, [12, 38, 1]), (.iconst 5, 1, []), (.iload_n 2, 1, []), (.imul, 1, []), (.iconst 4, 1, []), (.iadd, 1, []), (.iaload, 1, []), (.ldc_w 272, 3, [1000000000]), (.if_icmp .ne 5, 3, [1]), (.iconst (-1), 1, []), (.ireturn, 1, [])]),
  (23, [(.aload_n 0, 1, []), (.getfield 92, 3, [12, 38, 1]), (.iconst 5, 1, []), (.iload_n 2, 1, []), (.imul, 1, []), (.iconst 4, 1, []), (.iadd, 1, []), (.iaload, 1, []), (.sipush 1000, 3, []), (.idiv, 1, []), (.istore_n 3, 1, []), (.iload_n 2, 1, []), (.istore 4, 2, []), (.iconst 4, 1, []), (.istore 5, 2, []), (.nop, 0, [2])]),
  (44, [(.aload_n 0, 1, []), (.getfield 89, 3, [12, 37, 1]), (.iload 4, 2, []), (.baload, 1, []), (.ifCond .ne 67, 3, [7]), (.iconst 0, 1, []), (.istore 6, 2, []), (.nop, 0, [3])]),
  (57, [(.aload_n 0, 1, []), (.iload_n 1, 1, []), (.iload 4, 2, []), (.iload 5, 2, []), (.iload 6, 2, []), (.invokevirtual 289, 3, [233, 5, 12]), (.ifCond .ne 9, 3, [4]), (.iinc 6 1, 3, []), (.goto (-17), 3, [3])]),
  (77, [(.aload_n 0, 1, []), (.iload 4, 2, []), (.iload 6, 2, []), (.invokevirtual 229, 3, [204, 3, 12]), (.istore 7, 2, []), (.aload_n 0, 1, []), (.iload_n 1, 1, []), (.iload 4, 2, []), (.iload 7, 2, []), (.invokevirtual 293, 3, [223, 4, 12]), (.iload 7, 2, []), (.istore 4, 2, []), (.iload 6, 2, []), (.iconst 4, 1, []), (.if_icmp .ge 8, 3, [5]), (.iload 6, 2, []), (.goto 5, 3, [6])]),
  (111, [(.iload 5, 2, []), (.nop, 0, [6])]),
  (113, [(.istore 5, 2, []), (.goto (-71), 3, [2])]),
  (118, [(.iload_n 3, 1, []), (.ireturn, 1, [])])]
abbrev M_X12_go : Md := (234, 12, 8, (some .int), P_X12_go)
theorem ok_X12_go : k_okM M_X12_go := by unfold k_okM; decide +kernel
def P_X12_layNet : CB := [(0, [(.aload_n 0, 1, []), (.getfield 43, 3, [12, 17, 1]), (.iload_n 1, 1, []), (.iaload, 1, []), (.ifCond .ne 5, 3, [1]), (.iconst (-1), 1, []), (.ireturn, 1, [])]),
  (11, [(.aload_n 0, 1, []), (.iload_n 1, 1, []), (.invokevirtual 296, 3, [221, 2, 12]), (.iconst 0, 1, []), (.istore_n 2, 1, []), (.iconst 1, 1, []), (.istore_n 3, 1, []), (.nop, 0, [2])]),
  (20, [(.iload_n 3, 1, []), (.aload_n 0, 1, []), (.getfield 43, 3, [12, 17, 1]), (.iload_n 1, 1, []), (.iaload, 1, []), (.if_icmp .ge 78, 3, [6]), (.aload_n 0, 1, []), (.iload_n 1, 1, []), (.aload_n 0, 1, []), (.getfield 46, 3, [12, 18, 1]), (.iconst 4, 1, []), (.iload_n 1, 1, []), (.imul, 1, []), (.iaload, 1, []), (.invokevirtual 299, 3, [228, 3, 12]), (.aload_n 0, 1, []), (.getfield 89, 3, [12, 37, 1]), (.aload_n 0, 1, []), (.getfield 46, 3, [12, 18, 1]), (.iconst 4, 1, []), (.iload_n 1, 1, []), (.imul, 1, []), (.iload_n 3, 1, []), (.iadd, 1, []), (.iaload, 1, []), (.baload, 1, []), (.ifCond .eq 6, 3, [3]), (.goto 38, 3, [5])]),
  (64, [(.aload_n 0, 1, []), (.iload_n 1, 1, []), (.aload_n 0, 1, []), (.getfield 46, 3, [12, 18, 1]), (.iconst 4, 1, []), (.iload_n 1, 1, []), (.imul, 1, []), (.iload_n 3, 1, []), (.iadd, 1, []), (.iaload, 1, []), (.invokevirtual 303, 3, [234, 3, 12]), (.istore 4, 2, []), (.iload 4, 2, []), (.iconst (-1), 1, []), (.if_icmp .ne 10, 3, [4]), (.aload_n 0, 1, []), (.iload_n 1, 1, []), (.invokevirtual 306, 3, [222, 2, 12]), (.iconst (-1), 1, []), (.ireturn, 1, [])]),
  (94, [(.iload_n 2, 1, []), (.iload 4, 2, []), (.iadd, 1, []), (.istore_n 2, 1, []), (.nop, 0, [5])]),
  (99, [(.iinc 3 1, 3, []), (.goto (-82), 3, [2])]),
  (105, [(.iload_n 2, 1, []), (.ireturn, 1, [])])]
abbrev M_X12_layNet : Md := (235, 12, 5, (some .int), P_X12_layNet)
theorem ok_X12_layNet : k_okM M_X12_layNet := by unfold k_okM; decide +kernel
def P_X12_plainly : CB := [(0, [(.aload_n 0, 1, []), (.iload_n 1, 1, []), (.putfield 273, 3, [12, 41, 2]), (.aload_n 0, 1, []), (.iconst 0, 1, []), (.putfield 240, 3, [12, 28, 0]), (.aload_n 0, 1, []), (.iconst 0, 1, []), (.putfield 243, 3, [12, 30, 2]), (.iconst 0, 1, []), (.istore_n 2, 1, []), (.nop, 0, [1])]),
  (17, [(.iload_n 2, 1, []), (.sipush 324, 3, []), (.if_icmp .ge 16, 3, [2]), (.aload_n 0, 1, []), (.getfield 98, 3, [12, 40, 1]), (.iload_n 2, 1, []), (.iconst 0, 1, []), (.iastore, 1, []), (.iinc 2 1, 3, []), (.goto (-17), 3, [1])]),
  (37, [(.return_, 1, [])])]
abbrev M_X12_plainly : Md := (236, 12, 3, none, P_X12_plainly)
theorem ok_X12_plainly : k_okM M_X12_plainly := by unfold k_okM; decide +kernel
def P_X12_lay : CB := [(0, [(.aload_n 0, 1, []), (.iload_n 1, 1, []), (.invokevirtual 220, 3, [198, 2, 12]), (.ifCond .ne 5, 3, [1]), (.iconst (-1), 1, []), (.ireturn, 1, [])]),
  (10, [(.aload_n 0, 1, []), (.iconst 1, 1, []), (.invokevirtual 309, 3, [236, 2, 12]), (.aload_n 0, 1, []), (.iload_n 1, 1, []), (.invokevirtual 313, 3, [235, 2, 12]), (.ireturn, 1, [])])]
abbrev M_X12_lay : Md := (237, 12, 2, (some .int), P_X12_lay)
theorem ok_X12_lay : k_okM M_X12_lay := by unfold k_okM; decide +kernel
def P_X12_tried : CB := [(0, [(.aload_n 0, 1, []), (.iload_n 1, 1, []), (.invokevirtual 313, 3, [235, 2, 12]), (.istore_n 2, 1, []), (.iload_n 2, 1, []), (.iconst (-1), 1, []), (.if_icmp .eq 8, 3, [1]), (.aload_n 0, 1, []), (.iload_n 1, 1, []), (.invokevirtual 306, 3, [222, 2, 12]), (.nop, 0, [1])]),
  (16, [(.iload_n 2, 1, []), (.ireturn, 1, [])])]
abbrev M_X12_tried : Md := (238, 12, 3, (some .int), P_X12_tried)
theorem ok_X12_tried : k_okM M_X12_tried := by unfold k_okM; decide +kernel
def P_X12_cost : CB := [(0, [(.aload_n 0, 1, []), (.iload_n 1, 1, []), (.invokevirtual 220, 3, [198, 2, 12]), (.ifCond .ne 5, 3, [1]), (.iconst (-1), 1, []), (.ireturn, 1, [])]),
  (10, [(.aload_n 0, 1, []), (.iload_n 2, 1, []), (.invokevirtual 309, 3, [236, 2, 12]), (.aload_n 0, 1, []), (.iload_n 1, 1, []), (.invokevirtual 316, 3, [238, 2, 12]), (.istore_n 3, 1, []), (.aload_n 0, 1, []), (.iconst 1, 1, []), (.invokevirtual 309, 3, [236, 2, 12]), (.iload_n 3, 1, []), (.ireturn, 1, [])])]
abbrev M_X12_cost : Md := (239, 12, 4, (some .int), P_X12_cost)
theorem ok_X12_cost : k_okM M_X12_cost := by unfold k_okM; decide +kernel
def P_X12_rip : CB := [(0, [(.aload_n 0, 1, []), (.iload_n 1, 1, []), (.invokevirtual 220, 3, [198, 2, 12]), (.ifCond .eq 12, 3, [1]), (.aload_n 0, 1, []), (.getfield 58, 3, [12, 22, 1]), (.iload_n 1, 1, []), (.iaload, 1, []), (.ifCond .ne 5, 3, [2]), (.nop, 0, [1])]),
  (17, [(.iconst 0, 1, []), (.ireturn, 1, [])]),
  (19, [(.aload_n 0, 1, []), (.getfield 58, 3, [12, 22, 1]), (.iload_n 1, 1, []), (.iconst 0, 1, []), (.iastore, 1, []), (.aload_n 0, 1, []), (.iload_n 1, 1, []), (.invokevirtual 266, 3, [220, 2, 12]), (.iconst 1, 1, []), (.ireturn, 1, [])])]
abbrev M_X12_rip : Md := (240, 12, 2, (some .boolean), P_X12_rip)
theorem ok_X12_rip : k_okM M_X12_rip := by unfold k_okM; decide +kernel
def P_X12_rank : CB := [(0, [(.aload_n 0, 1, []), (.iload_n 1, 1, []), (.invokevirtual 220, 3, [198, 2, 12]), (.ifCond .eq 13, 3, [1]), (.iload_n 2, 1, []), (.iconst 0, 1, []), (.bipush 99, 2, []), (.invokestatic 175, 3, [179, 3]), (.ifCond .ne 5, 3, [2]), (.nop, 0, [1])]),
  (18, [(.iconst 0, 1, []), (.ireturn, 1, [])]),
  (20, [(.aload_n 0, 1, []), (.getfield 40, 3, [12, 16, 1]), (.iload_n 1, 1, []), (.iload_n 2, 1, []), (.iastore, 1, []), (.iconst 1, 1, []), (.ireturn, 1, [])])]
abbrev M_X12_rank : Md := (241, 12, 3, (some .boolean), P_X12_rank)
theorem ok_X12_rank : k_okM M_X12_rank := by unfold k_okM; decide +kernel
def P_X12_order : CB := [(0, [(.aload_n 0, 1, []), (.iconst 1, 1, []), (.invokevirtual 309, 3, [236, 2, 12]), (.aload_n 0, 1, []), (.invokevirtual 319, 3, [225, 1, 12]), (.iconst 0, 1, []), (.istore_n 1, 1, []), (.iconst 0, 1, []), (.istore_n 2, 1, []), (.nop, 0, [1])]),
  (13, [(.iload_n 2, 1, []), (.bipush 100, 2, []), (.if_icmp .ge 63, 3, [6]), (.iconst 0, 1, []), (.istore_n 3, 1, []), (.nop, 0, [2])]),
  (21, [(.iload_n 3, 1, []), (.aload_n 0, 1, []), (.getfield 202, 3, [12, 26, 0]), (.if_icmp .ge 47, 3, [5]), (.iload_n 1, 1, []), (.aload_n 0, 1, []), (.getfield 40, 3, [12, 16, 1]), (.iload_n 3, 1, []), (.iaload, 1, []), (.iload_n 2, 1, []), (.if_icmp .ne 27, 3, [3]), (.aload_n 0, 1, []), (.getfield 43, 3, [12, 17, 1]), (.iload_n 3, 1, []), (.iaload, 1, []), (.ifCond .le 18, 3, [3]), (.aload_n 0, 1, []), (.iload_n 3, 1, []), (.invokevirtual 313, 3, [235, 2, 12]), (.iconst (-1), 1, []), (.if_icmp .ne 9, 3, [3]), (.iconst 1, 1, []), (.iload_n 3, 1, []), (.ishl, 1, []), (.goto 4, 3, [4])]),
  (64, [(.iconst 0, 1, []), (.nop, 0, [4])]),
  (65, [(.ior, 1, []), (.istore_n 1, 1, []), (.iinc 3 1, 3, []), (.goto (-49), 3, [2])]),
  (73, [(.iinc 2 1, 3, []), (.goto (-63), 3, [1])]),
  (79, [(.iload_n 1, 1, []), (.ireturn, 1, [])])]
abbrev M_X12_order : Md := (242, 12, 4, (some .int), P_X12_order)
theorem ok_X12_order : k_okM M_X12_order := by unfold k_okM; decide +kernel
def P_X12_hasTrace : CB := [(0, [(.aload_n 0, 1, []), (.getfield 71, 3, [12, 27, 1]), (.sipush 324, 3, []), (.iload_n 1, 1, []), (.imul, 1, []), (.iload_n 2, 1, []), (.iadd, 1, []), (.iaload, 1, []), (.iconst 2, 1, []), (.iand, 1, []), (.ifCond .eq 7, 3, [1]), (.iconst 1, 1, []), (.goto 4, 3, [2])]),
  (21, [(.iconst 0, 1, []), (.nop, 0, [2])]),
  (22, [(.ireturn, 1, [])])]
abbrev M_X12_hasTrace : Md := (243, 12, 3, (some .boolean), P_X12_hasTrace)
theorem ok_X12_hasTrace : k_okM M_X12_hasTrace := by unfold k_okM; decide +kernel
def P_X12_isTraceNear : CB := [(0, [(.iconst 0, 1, []), (.iload_n 2, 1, []), (.invokestatic 208, 3, [202, 1]), (.iload_n 3, 1, []), (.isub, 1, []), (.invokestatic 9, 3, [0]), (.istore 4, 2, []), (.nop, 0, [1])]),
  (12, [(.iload 4, 2, []), (.aload_n 0, 1, []), (.getfield 139, 3, [12, 2, 0]), (.iconst 1, 1, []), (.isub, 1, []), (.iload_n 2, 1, []), (.invokestatic 208, 3, [202, 1]), (.iload_n 3, 1, []), (.iadd, 1, []), (.invokestatic 3, 3, [1]), (.if_icmp .gt 68, 3, [5]), (.iconst 0, 1, []), (.iload_n 2, 1, []), (.invokestatic 205, 3, [201, 1]), (.iload_n 3, 1, []), (.isub, 1, []), (.invokestatic 9, 3, [0]), (.istore 5, 2, []), (.nop, 0, [2])]),
  (44, [(.iload 5, 2, []), (.aload_n 0, 1, []), (.getfield 135, 3, [12, 1, 0]), (.iconst 1, 1, []), (.isub, 1, []), (.iload_n 2, 1, []), (.invokestatic 205, 3, [201, 1]), (.iload_n 3, 1, []), (.iadd, 1, []), (.invokestatic 3, 3, [1]), (.if_icmp .gt 30, 3, [4]), (.aload_n 0, 1, []), (.iload_n 1, 1, []), (.iload 5, 2, []), (.iload 4, 2, []), (.iload_n 2, 1, []), (.invokestatic 211, 3, [203, 1]), (.invokestatic 217, 3, [200, 3]), (.invokevirtual 322, 3, [243, 3, 12]), (.ifCond .eq 5, 3, [3]), (.iconst 1, 1, []), (.ireturn, 1, [])]),
  (85, [(.iinc 5 1, 3, []), (.goto (-44), 3, [2])]),
  (91, [(.iinc 4 1, 3, []), (.goto (-82), 3, [1])]),
  (97, [(.iconst 0, 1, []), (.ireturn, 1, [])])]
abbrev M_X12_isTraceNear : Md := (244, 12, 6, (some .boolean), P_X12_isTraceNear)
theorem ok_X12_isTraceNear : k_okM M_X12_isTraceNear := by unfold k_okM; decide +kernel
def P_X12_tracesNear : CB := [(0, [(.iconst 0, 1, []), (.istore_n 3, 1, []), (.iconst 0, 1, []), (.istore 4, 2, []), (.nop, 0, [1])]),
  (5, [(.iload 4, 2, []), (.aload_n 0, 1, []), (.getfield 202, 3, [12, 26, 0]), (.if_icmp .ge 40, 3, [4]), (.iload_n 3, 1, []), (.iload 4, 2, []), (.iload_n 1, 1, []), (.if_icmp .eq 24, 3, [2]), (.aload_n 0, 1, []), (.iload 4, 2, []), (.iload_n 2, 1, []), (.aload_n 0, 1, []), (.iload_n 1, 1, []), (.iload 4, 2, []), (.invokevirtual 253, 3, [216, 3, 12]), (.invokevirtual 325, 3, [244, 4, 12]), (.ifCond .eq 7, 3, [2]), (.iconst 1, 1, []), (.goto 4, 3, [3])]),
  (42, [(.iconst 0, 1, []), (.nop, 0, [3])]),
  (43, [(.iadd, 1, []), (.istore_n 3, 1, []), (.iinc 4 1, 3, []), (.goto (-43), 3, [1])]),
  (51, [(.iload_n 3, 1, []), (.ireturn, 1, [])])]
abbrev M_X12_tracesNear : Md := (245, 12, 5, (some .int), P_X12_tracesNear)
theorem ok_X12_tracesNear : k_okM M_X12_tracesNear := by unfold k_okM; decide +kernel
def P_X12_isInside : CB := [(0, [(.aload_n 0, 1, []), (.iload_n 1, 1, []), (.invokestatic 205, 3, [201, 1]), (.iload_n 1, 1, []), (.invokestatic 208, 3, [202, 1]), (.iload_n 1, 1, []), (.invokestatic 211, 3, [203, 1]), (.invokevirtual 214, 3, [199, 4, 12]), (.ireturn, 1, [])])]
abbrev M_X12_isInside : Md := (246, 12, 2, (some .boolean), P_X12_isInside)
theorem ok_X12_isInside : k_okM M_X12_isInside := by unfold k_okM; decide +kernel
def P_X12_turn : CB := [(0, [(.iconst 0, 1, []), (.istore_n 2, 1, []), (.nop, 0, [1])]),
  (2, [(.iload_n 2, 1, []), (.aload_n 0, 1, []), (.getfield 202, 3, [12, 26, 0]), (.if_icmp .ge 85, 3, [8]), (.aload_n 0, 1, []), (.getfield 43, 3, [12, 17, 1]), (.iload_n 2, 1, []), (.iaload, 1, []), (.ifCond .ne 6, 3, [2]), (.goto 67, 3, [7])]),
  (22, [(.aload_n 0, 1, []), (.iload_n 2, 1, []), (.putfield 247, 3, [12, 29, 0]), (.iconst 0, 1, []), (.istore_n 3, 1, []), (.nop, 0, [3])]),
  (29, [(.iload_n 3, 1, []), (.sipush 324, 3, []), (.if_icmp .ge 42, 3, [6]), (.aload_n 0, 1, []), (.getfield 98, 3, [12, 40, 1]), (.iload_n 3, 1, []), (.aload_n 0, 1, []), (.iload_n 3, 1, []), (.invokevirtual 328, 3, [246, 2, 12]), (.ifCond .eq 21, 3, [4]), (.iload_n 1, 1, []), (.aload_n 0, 1, []), (.iload_n 2, 1, []), (.iload_n 3, 1, []), (.invokevirtual 331, 3, [245, 3, 12]), (.imul, 1, []), (.aload_n 0, 1, []), (.getfield 101, 3, [12, 42, 1]), (.iload_n 3, 1, []), (.iaload, 1, []), (.iadd, 1, []), (.goto 4, 3, [5])]),
  (67, [(.iconst 0, 1, []), (.nop, 0, [5])]),
  (68, [(.iastore, 1, []), (.iinc 3 1, 3, []), (.goto (-43), 3, [3])]),
  (75, [(.aload_n 0, 1, []), (.iload_n 2, 1, []), (.invokevirtual 313, 3, [235, 2, 12]), (.iconst (-1), 1, []), (.if_icmp .ne 5, 3, [7]), (.iconst 0, 1, []), (.ireturn, 1, [])]),
  (86, [(.iinc 2 1, 3, []), (.goto (-87), 3, [1])]),
  (92, [(.iconst 1, 1, []), (.ireturn, 1, [])])]
abbrev M_X12_turn : Md := (247, 12, 4, (some .boolean), P_X12_turn)
theorem ok_X12_turn : k_okM M_X12_turn := by unfold k_okM; decide +kernel
def P_X12_crowd : CB := [(0, [(.iconst 0, 1, []), (.istore_n 1, 1, []), (.iconst 0, 1, []), (.istore_n 2, 1, []), (.nop, 0, [1])]),
  (4, [(.iload_n 2, 1, []), (.sipush 324, 3, []), (.if_icmp .ge 97, 3, [11]), (.iconst 0, 1, []), (.istore_n 3, 1, []), (.iconst 0, 1, []), (.istore 4, 2, []), (.nop, 0, [2])]),
  (16, [(.iload 4, 2, []), (.aload_n 0, 1, []), (.getfield 202, 3, [12, 26, 0]), (.if_icmp .ge 47, 3, [6]), (.aload_n 0, 1, []), (.iload_n 2, 1, []), (.invokevirtual 328, 3, [246, 2, 12]), (.ifCond .eq 39, 3, [6]), (.iload_n 3, 1, []), (.ifCond .ne 23, 3, [3]), (.aload_n 0, 1, []), (.iload 4, 2, []), (.iload_n 2, 1, []), (.invokevirtual 322, 3, [243, 3, 12]), (.ifCond .eq 17, 3, [4]), (.aload_n 0, 1, []), (.iload 4, 2, []), (.iload_n 2, 1, []), (.invokevirtual 331, 3, [245, 3, 12]), (.ifCond .le 7, 3, [4]), (.nop, 0, [3])]),
  (57, [(.iconst 1, 1, []), (.goto 4, 3, [5])]),
  (61, [(.iconst 0, 1, []), (.nop, 0, [5])]),
  (62, [(.istore_n 3, 1, []), (.iinc 4 1, 3, []), (.goto (-50), 3, [2])]),
  (69, [(.aload_n 0, 1, []), (.getfield 101, 3, [12, 42, 1]), (.iload_n 2, 1, []), (.dup2, 1, []), (.iaload, 1, []), (.iload_n 3, 1, []), (.ifCond .eq 7, 3, [7]), (.iconst 1, 1, []), (.goto 4, 3, [8])]),
  (84, [(.iconst 0, 1, []), (.nop, 0, [8])]),
  (85, [(.iadd, 1, []), (.iastore, 1, []), (.iload_n 1, 1, []), (.iload_n 3, 1, []), (.ifCond .eq 7, 3, [9]), (.iconst 1, 1, []), (.goto 4, 3, [10])]),
  (96, [(.iconst 0, 1, []), (.nop, 0, [10])]),
  (97, [(.iadd, 1, []), (.istore_n 1, 1, []), (.iinc 2 1, 3, []), (.goto (-98), 3, [1])]),
  (105, [(.iload_n 1, 1, []), (.ireturn, 1, [])])]
abbrev M_X12_crowd : Md := (248, 12, 5, (some .int), P_X12_crowd)
theorem ok_X12_crowd : k_okM M_X12_crowd := by unfold k_okM; decide +kernel
end
section
/-! code as data (written by wip/whole/gencode.py) -/
def P_X12_press : CB := [(0, [(.iload_n 1, 1, []), (.iconst 1, 1, []), (.bipush 20, 2, []), (.invokestatic 175, 3, [179, 3]), (.ifCond .eq 13, 3, [1]), (.iload_n 2, 1, []), (.iconst 1, 1, []), (.bipush 20, 2, []), (.invokestatic 175, 3, [179, 3]), (.ifCond .ne 5, 3, [2]), (.nop, 0, [1])]),
  (20, [(.iconst (-1), 1, []), (.ireturn, 1, [])]),
  (22, [(.aload_n 0, 1, []), (.invokevirtual 334, 3, [224, 1, 12]), (.aload_n 0, 1, []), (.invokevirtual 319, 3, [225, 1, 12]), (.aload_n 0, 1, []), (.iconst 1, 1, []), (.invokevirtual 309, 3, [236, 2, 12]), (.aload_n 0, 1, []), (.iconst 1, 1, []), (.putfield 243, 3, [12, 30, 2]), (.iconst 0, 1, []), (.istore_n 3, 1, []), (.nop, 0, [3])]),
  (42, [(.iload_n 3, 1, []), (.sipush 324, 3, []), (.if_icmp .ge 16, 3, [4]), (.aload_n 0, 1, []), (.getfield 101, 3, [12, 42, 1]), (.iload_n 3, 1, []), (.iconst 0, 1, []), (.iastore, 1, []), (.iinc 3 1, 3, []), (.goto (-17), 3, [3])]),
  (62, [(.iconst (-1), 1, []), (.istore_n 3, 1, []), (.iconst 1, 1, []), (.istore 4, 2, []), (.iconst 1, 1, []), (.istore 5, 2, []), (.nop, 0, [5])]),
  (70, [(.iload 5, 2, []), (.iload_n 1, 1, []), (.if_icmp .gt 39, 3, [7]), (.iload 4, 2, []), (.ifCond .eq 34, 3, [7]), (.aload_n 0, 1, []), (.iload_n 2, 1, []), (.invokevirtual 337, 3, [247, 2, 12]), (.istore 4, 2, []), (.iload 4, 2, []), (.ifCond .eq 16, 3, [6]), (.aload_n 0, 1, []), (.invokevirtual 340, 3, [248, 1, 12]), (.ifCond .ne 9, 3, [6]), (.iload 5, 2, []), (.istore_n 3, 1, []), (.iconst 0, 1, []), (.istore 4, 2, []), (.nop, 0, [6])]),
  (106, [(.iinc 5 1, 3, []), (.goto (-39), 3, [5])]),
  (112, [(.iload_n 3, 1, []), (.iconst (-1), 1, []), (.if_icmp .ne 7, 3, [8]), (.aload_n 0, 1, []), (.invokevirtual 343, 3, [226, 1, 12]), (.nop, 0, [8])]),
  (121, [(.aload_n 0, 1, []), (.iconst 1, 1, []), (.invokevirtual 309, 3, [236, 2, 12]), (.iload_n 3, 1, []), (.ireturn, 1, [])])]
abbrev M_X12_press : Md := (249, 12, 6, (some .int), P_X12_press)
theorem ok_X12_press : k_okM M_X12_press := by unfold k_okM; decide +kernel
def P_X12_reach : CB := [(0, [(.iconst 0, 1, []), (.istore_n 2, 1, []), (.nop, 0, [1])]),
  (2, [(.iload_n 2, 1, []), (.sipush 324, 3, []), (.if_icmp .ge 61, 3, [6]), (.aload_n 0, 1, []), (.getfield 104, 3, [12, 43, 1]), (.iload_n 2, 1, []), (.iload_n 2, 1, []), (.aload_n 0, 1, []), (.getfield 46, 3, [12, 18, 1]), (.iconst 4, 1, []), (.iload_n 1, 1, []), (.imul, 1, []), (.iaload, 1, []), (.if_icmp .ne 7, 3, [2]), (.iconst 1, 1, []), (.goto 4, 3, [3])]),
  (30, [(.iconst 0, 1, []), (.nop, 0, [3])]),
  (31, [(.bastore, 1, []), (.aload_n 0, 1, []), (.getfield 95, 3, [12, 39, 1]), (.iload_n 2, 1, []), (.aload_n 0, 1, []), (.iload_n 2, 1, []), (.invokevirtual 328, 3, [246, 2, 12]), (.ifCond .eq 17, 3, [4]), (.aload_n 0, 1, []), (.iload_n 1, 1, []), (.iload_n 2, 1, []), (.iconst 0, 1, []), (.invokevirtual 259, 3, [218, 4, 12]), (.ifCond .eq 7, 3, [4]), (.iconst 1, 1, []), (.goto 4, 3, [5])]),
  (59, [(.iconst 0, 1, []), (.nop, 0, [5])]),
  (60, [(.bastore, 1, []), (.iinc 2 1, 3, []), (.goto (-62), 3, [1])]),
  (67, [(.iconst 1, 1, []), (.istore_n 2, 1, []), (.nop, 0, [7])]),
  (69, [(.iload_n 2, 1, []), (.ifCond .eq 58, 3, [11]), (.iconst 0, 1, []), (.istore_n 2, 1, []), (.iconst 0, 1, []), (.istore_n 3, 1, []), (.nop, 0, [8])]),
  (77, [(.iload_n 3, 1, []), (.sipush 324, 3, []), (.if_icmp .ge 44, 3, [10]), (.aload_n 0, 1, []), (.getfield 95, 3, [12, 39, 1]), (.iload_n 3, 1, []), (.baload, 1, []), (.ifCond .eq 29, 3, [9]), (.aload_n 0, 1, []), (.getfield 104, 3, [12, 43, 1]), (.iload_n 3, 1, []), (.baload, 1, []), (.ifCond .ne 20, 3, [9]), (.aload_n 0, 1, []), (.iload_n 3, 1, []), (.invokevirtual 346, 3, [251, 2, 12]), (.ifCond .eq 12, 3, [9]), (.aload_n 0, 1, []), (.getfield 104, 3, [12, 43, 1]), (.iload_n 3, 1, []), (.iconst 1, 1, []), (.bastore, 1, []), (.iconst 1, 1, []), (.istore_n 2, 1, []), (.nop, 0, [9])]),
  (119, [(.iinc 3 1, 3, []), (.goto (-45), 3, [8])]),
  (125, [(.goto (-56), 3, [7])]),
  (128, [(.return_, 1, [])])]
abbrev M_X12_reach : Md := (250, 12, 4, none, P_X12_reach)
theorem ok_X12_reach : k_okM M_X12_reach := by unfold k_okM; decide +kernel
def P_X12_isBeside : CB := [(0, [(.iconst 0, 1, []), (.istore_n 2, 1, []), (.nop, 0, [1])]),
  (2, [(.iload_n 2, 1, []), (.bipush 6, 2, []), (.if_icmp .ge 32, 3, [3]), (.aload_n 0, 1, []), (.iload_n 1, 1, []), (.iload_n 2, 1, []), (.invokevirtual 229, 3, [204, 3, 12]), (.istore_n 3, 1, []), (.iload_n 3, 1, []), (.iconst (-1), 1, []), (.if_icmp .eq 14, 3, [2]), (.aload_n 0, 1, []), (.getfield 104, 3, [12, 43, 1]), (.iload_n 3, 1, []), (.baload, 1, []), (.ifCond .eq 5, 3, [2]), (.iconst 1, 1, []), (.ireturn, 1, [])]),
  (31, [(.iinc 2 1, 3, []), (.goto (-32), 3, [1])]),
  (37, [(.iconst 0, 1, []), (.ireturn, 1, [])])]
abbrev M_X12_isBeside : Md := (251, 12, 4, (some .boolean), P_X12_isBeside)
theorem ok_X12_isBeside : k_okM M_X12_isBeside := by unfold k_okM; decide +kernel
def P_X12_isWall : CB := [(0, [(.aload_n 0, 1, []), (.iload_n 1, 1, []), (.invokevirtual 328, 3, [246, 2, 12]), (.ifCond .eq 24, 3, [1]), (.aload_n 0, 1, []), (.getfield 104, 3, [12, 43, 1]), (.iload_n 1, 1, []), (.baload, 1, []), (.ifCond .ne 15, 3, [1]), (.aload_n 0, 1, []), (.iload_n 1, 1, []), (.invokevirtual 346, 3, [251, 2, 12]), (.ifCond .eq 7, 3, [1]), (.iconst 1, 1, []), (.goto 4, 3, [2])]),
  (29, [(.iconst 0, 1, []), (.nop, 0, [2])]),
  (30, [(.ireturn, 1, [])])]
abbrev M_X12_isWall : Md := (252, 12, 2, (some .boolean), P_X12_isWall)
theorem ok_X12_isWall : k_okM M_X12_isWall := by unfold k_okM; decide +kernel
def P_X12_cutOf : CB := [(0, [(.iload_n 2, 1, []), (.iconst 1, 1, []), (.if_icmp .ne 43, 3, [4]), (.iconst 0, 1, []), (.istore_n 3, 1, []), (.nop, 0, [1])]),
  (7, [(.iload_n 3, 1, []), (.aload_n 0, 1, []), (.getfield 43, 3, [12, 17, 1]), (.iload_n 1, 1, []), (.iaload, 1, []), (.if_icmp .ge 29, 3, [3]), (.aload_n 0, 1, []), (.getfield 104, 3, [12, 43, 1]), (.aload_n 0, 1, []), (.getfield 46, 3, [12, 18, 1]), (.iconst 4, 1, []), (.iload_n 1, 1, []), (.imul, 1, []), (.iload_n 3, 1, []), (.iadd, 1, []), (.iaload, 1, []), (.baload, 1, []), (.ifCond .ne 5, 3, [2]), (.iload_n 3, 1, []), (.ireturn, 1, [])]),
  (37, [(.iinc 3 1, 3, []), (.goto (-33), 3, [1])]),
  (43, [(.iconst (-1), 1, []), (.ireturn, 1, [])]),
  (45, [(.iconst 0, 1, []), (.istore_n 3, 1, []), (.iconst 0, 1, []), (.istore 4, 2, []), (.iconst 0, 1, []), (.istore 5, 2, []), (.nop, 0, [5])]),
  (53, [(.iload 5, 2, []), (.sipush 324, 3, []), (.if_icmp .ge 157, 3, [16]), (.iload_n 3, 1, []), (.iload_n 2, 1, []), (.ifCond .ne 21, 3, [7]), (.aload_n 0, 1, []), (.getfield 104, 3, [12, 43, 1]), (.iload 5, 2, []), (.baload, 1, []), (.ifCond .eq 7, 3, [6]), (.iconst 1, 1, []), (.goto 21, 3, [9])]),
  (80, [(.iconst 0, 1, []), (.goto 17, 3, [9])]),
  (84, [(.aload_n 0, 1, []), (.iload 5, 2, []), (.invokevirtual 349, 3, [252, 2, 12]), (.ifCond .eq 7, 3, [8]), (.iconst 1, 1, []), (.goto 4, 3, [9])]),
  (97, [(.iconst 0, 1, []), (.nop, 0, [9])]),
  (98, [(.iadd, 1, []), (.istore_n 3, 1, []), (.aload_n 0, 1, []), (.iload 5, 2, []), (.invokevirtual 349, 3, [252, 2, 12]), (.ifCond .eq 40, 3, [10]), (.aload_n 0, 1, []), (.getfield 67, 3, [12, 25, 1]), (.iload 5, 2, []), (.baload, 1, []), (.ifCond .ne 30, 3, [10]), (.aload_n 0, 1, []), (.getfield 34, 3, [12, 12, 1]), (.aload_n 0, 1, []), (.getfield 37, 3, [12, 15, 1]), (.iload_n 1, 1, []), (.iaload, 1, []), (.iaload, 1, []), (.iload 5, 2, []), (.invokestatic 211, 3, [203, 1]), (.ishr, 1, []), (.iconst 1, 1, []), (.iand, 1, []), (.iconst 1, 1, []), (.if_icmp .ne 7, 3, [10]), (.iconst 1, 1, []), (.goto 4, 3, [11])]),
  (146, [(.iconst 0, 1, []), (.nop, 0, [11])]),
  (147, [(.istore 6, 2, []), (.iconst 0, 1, []), (.istore 7, 2, []), (.nop, 0, [12])]),
  (152, [(.iload 7, 2, []), (.aload_n 0, 1, []), (.getfield 202, 3, [12, 26, 0]), (.if_icmp .ge 51, 3, [15]), (.iload 6, 2, []), (.ifCond .eq 46, 3, [15]), (.iload 4, 2, []), (.iload 7, 2, []), (.iload_n 1, 1, []), (.if_icmp .eq 28, 3, [13]), (.aload_n 0, 1, []), (.iload 7, 2, []), (.iload 5, 2, []), (.aload_n 0, 1, []), (.iload_n 1, 1, []), (.iload 7, 2, []), (.invokevirtual 253, 3, [216, 3, 12]), (.invokevirtual 256, 3, [217, 4, 12]), (.ifCond .eq 10, 3, [13]), (.iconst 1, 1, []), (.iload 7, 2, []), (.ishl, 1, []), (.goto 4, 3, [14])]),
  (199, [(.iconst 0, 1, []), (.nop, 0, [14])]),
  (200, [(.ior, 1, []), (.istore 4, 2, []), (.iinc 7 1, 3, []), (.goto (-54), 3, [12])]),
  (209, [(.iinc 5 1, 3, []), (.goto (-159), 3, [5])]),
  (215, [(.iload_n 2, 1, []), (.iconst 3, 1, []), (.if_icmp .ne 8, 3, [17]), (.iload 4, 2, []), (.goto 4, 3, [18])]),
  (225, [(.iload_n 3, 1, []), (.nop, 0, [18])]),
  (226, [(.ireturn, 1, [])])]
abbrev M_X12_cutOf : Md := (253, 12, 8, (some .int), P_X12_cutOf)
theorem ok_X12_cutOf : k_okM M_X12_cutOf := by unfold k_okM; decide +kernel
def P_X12_cut : CB := [(0, [(.aload_n 0, 1, []), (.iload_n 1, 1, []), (.invokevirtual 220, 3, [198, 2, 12]), (.ifCond .eq 21, 3, [1]), (.aload_n 0, 1, []), (.getfield 43, 3, [12, 17, 1]), (.iload_n 1, 1, []), (.iaload, 1, []), (.ifCond .eq 12, 3, [1]), (.iload_n 2, 1, []), (.iconst 0, 1, []), (.iconst 3, 1, []), (.invokestatic 175, 3, [179, 3]), (.ifCond .ne 5, 3, [2]), (.nop, 0, [1])]),
  (26, [(.iconst (-1), 1, []), (.ireturn, 1, [])]),
  (28, [(.aload_n 0, 1, []), (.iconst 1, 1, []), (.invokevirtual 309, 3, [236, 2, 12]), (.aload_n 0, 1, []), (.iload_n 1, 1, []), (.invokevirtual 296, 3, [221, 2, 12]), (.aload_n 0, 1, []), (.iload_n 1, 1, []), (.invokevirtual 352, 3, [250, 2, 12]), (.aload_n 0, 1, []), (.iload_n 1, 1, []), (.iload_n 2, 1, []), (.invokevirtual 355, 3, [253, 3, 12]), (.istore_n 3, 1, []), (.aload_n 0, 1, []), (.iload_n 1, 1, []), (.invokevirtual 306, 3, [222, 2, 12]), (.iload_n 3, 1, []), (.ireturn, 1, [])])]
abbrev M_X12_cut : Md := (254, 12, 4, (some .int), P_X12_cut)
theorem ok_X12_cut : k_okM M_X12_cut := by unfold k_okM; decide +kernel
def P_X12_isAhead : CB := [(0, [(.iload_n 1, 1, []), (.iconst (-1), 1, []), (.if_icmp .ne 7, 3, [1]), (.iconst 1, 1, []), (.goto 12, 3, [2])]),
  (9, [(.iload_n 1, 1, []), (.invokestatic 358, 3, [316, 1]), (.iload_n 0, 1, []), (.invokestatic 358, 3, [316, 1]), (.isub, 1, []), (.nop, 0, [2])]),
  (18, [(.istore_n 2, 1, []), (.iload_n 1, 1, []), (.iload_n 0, 1, []), (.ixor, 1, []), (.istore_n 3, 1, []), (.iload_n 2, 1, []), (.ifCond .gt 16, 3, [3]), (.iload_n 2, 1, []), (.ifCond .ne 16, 3, [4]), (.iload_n 0, 1, []), (.iload_n 3, 1, []), (.iand, 1, []), (.iload_n 3, 1, []), (.ineg, 1, []), (.iand, 1, []), (.ifCond .eq 7, 3, [4]), (.nop, 0, [3])]),
  (40, [(.iconst 1, 1, []), (.goto 4, 3, [5])]),
  (44, [(.iconst 0, 1, []), (.nop, 0, [5])]),
  (45, [(.ireturn, 1, [])])]
abbrev M_X12_isAhead : Md := (255, 12, 4, (some .boolean), P_X12_isAhead)
theorem ok_X12_isAhead : k_okM M_X12_isAhead := by unfold k_okM; decide +kernel
def P_X12_bars : CB := [(0, [(.aload_n 0, 1, []), (.iload_n 1, 1, []), (.invokevirtual 220, 3, [198, 2, 12]), (.ifCond .eq 12, 3, [1]), (.aload_n 0, 1, []), (.getfield 43, 3, [12, 17, 1]), (.iload_n 1, 1, []), (.iaload, 1, []), (.ifCond .ne 5, 3, [2]), (.nop, 0, [1])]),
  (17, [(.iconst (-1), 1, []), (.ireturn, 1, [])]),
  (19, [(.aload_n 0, 1, []), (.iconst 1, 1, []), (.invokevirtual 309, 3, [236, 2, 12]), (.iconst (-1), 1, []), (.istore_n 2, 1, []), (.iconst 0, 1, []), (.istore_n 3, 1, []), (.nop, 0, [3])]),
  (28, [(.iload_n 3, 1, []), (.iconst 1, 1, []), (.aload_n 0, 1, []), (.getfield 202, 3, [12, 26, 0]), (.ishl, 1, []), (.if_icmp .ge 49, 3, [8]), (.iload_n 3, 1, []), (.iload_n 1, 1, []), (.ishr, 1, []), (.iconst 1, 1, []), (.iand, 1, []), (.iconst 1, 1, []), (.if_icmp .eq 34, 3, [7]), (.iload_n 3, 1, []), (.iload_n 2, 1, []), (.invokestatic 363, 3, [255, 2]), (.ifCond .ne 6, 3, [4]), (.goto 23, 3, [7])]),
  (58, [(.aload_n 0, 1, []), (.iload_n 3, 1, []), (.putfield 240, 3, [12, 28, 0]), (.aload_n 0, 1, []), (.iload_n 1, 1, []), (.invokevirtual 316, 3, [238, 2, 12]), (.iconst (-1), 1, []), (.if_icmp .eq 7, 3, [5]), (.iload_n 3, 1, []), (.goto 4, 3, [6])]),
  (76, [(.iload_n 2, 1, []), (.nop, 0, [6])]),
  (77, [(.istore_n 2, 1, []), (.nop, 0, [7])]),
  (78, [(.iinc 3 1, 3, []), (.goto (-53), 3, [3])]),
  (84, [(.aload_n 0, 1, []), (.iconst 0, 1, []), (.putfield 240, 3, [12, 28, 0]), (.iload_n 2, 1, []), (.ireturn, 1, [])])]
abbrev M_X12_bars : Md := (256, 12, 4, (some .int), P_X12_bars)
theorem ok_X12_bars : k_okM M_X12_bars := by unfold k_okM; decide +kernel
def P_X12_goOn : CB := [(0, [(.aload_n 0, 1, []), (.getfield 107, 3, [12, 44, 1]), (.iload_n 3, 1, []), (.iload 4, 2, []), (.iadd, 1, []), (.iconst 1, 1, []), (.isub, 1, []), (.iaload, 1, []), (.istore 5, 2, []), (.iload 5, 2, []), (.aload_n 0, 1, []), (.getfield 46, 3, [12, 18, 1]), (.iconst 4, 1, []), (.iload_n 2, 1, []), (.imul, 1, []), (.iconst 1, 1, []), (.iadd, 1, []), (.iaload, 1, []), (.if_icmp .ne 19, 3, [1]), (.aload_n 0, 1, []), (.iload_n 1, 1, []), (.iconst 1, 1, []), (.iload_n 2, 1, []), (.ishl, 1, []), (.iconst (-1), 1, []), (.ixor, 1, []), (.iand, 1, []), (.iload_n 3, 1, []), (.iload 4, 2, []), (.iadd, 1, []), (.invokevirtual 366, 3, [259, 3, 12]), (.ireturn, 1, [])]),
  (44, [(.iconst 0, 1, []), (.istore 6, 2, []), (.nop, 0, [2])]),
  (47, [(.iload 6, 2, []), (.bipush 6, 2, []), (.if_icmp .ge 129, 3, [5]), (.aload_n 0, 1, []), (.iload 5, 2, []), (.iload 6, 2, []), (.invokevirtual 229, 3, [204, 3, 12]), (.istore 7, 2, []), (.iload 7, 2, []), (.iconst (-1), 1, []), (.if_icmp .eq 107, 3, [4]), (.aload_n 0, 1, []), (.iload_n 2, 1, []), (.iload 7, 2, []), (.iconst 0, 1, []), (.invokevirtual 259, 3, [218, 4, 12]), (.ifCond .eq 96, 3, [4]), (.aload_n 0, 1, []), (.iload 7, 2, []), (.iload_n 3, 1, []), (.iload 4, 2, []), (.invokevirtual 369, 3, [258, 4, 12]), (.ifCond .ne 6, 3, [3]), (.goto 81, 3, [4])]),
  (96, [(.aload_n 0, 1, []), (.getfield 107, 3, [12, 44, 1]), (.iload_n 3, 1, []), (.iload 4, 2, []), (.iadd, 1, []), (.iload 7, 2, []), (.iastore, 1, []), (.aload_n 0, 1, []), (.getfield 71, 3, [12, 27, 1]), (.sipush 324, 3, []), (.iload_n 2, 1, []), (.imul, 1, []), (.iload 7, 2, []), (.iadd, 1, []), (.iaload, 1, []), (.istore 8, 2, []), (.aload_n 0, 1, []), (.getfield 71, 3, [12, 27, 1]), (.sipush 324, 3, []), (.iload_n 2, 1, []), (.imul, 1, []), (.iload 7, 2, []), (.iadd, 1, []), (.dup2, 1, []), (.iaload, 1, []), (.iconst 4, 1, []), (.ior, 1, []), (.iastore, 1, []), (.aload_n 0, 1, []), (.iload_n 1, 1, []), (.iload_n 2, 1, []), (.iload_n 3, 1, []), (.iload 4, 2, []), (.iconst 1, 1, []), (.iadd, 1, []), (.invokevirtual 372, 3, [257, 5, 12]), (.istore 9, 2, []), (.aload_n 0, 1, []), (.getfield 71, 3, [12, 27, 1]), (.sipush 324, 3, []), (.iload_n 2, 1, []), (.imul, 1, []), (.iload 7, 2, []), (.iadd, 1, []), (.iload 8, 2, []), (.iastore, 1, []), (.iload 9, 2, []), (.ifCond .eq 5, 3, [4]), (.iconst 1, 1, []), (.ireturn, 1, [])]),
  (174, [(.iinc 6 1, 3, []), (.goto (-130), 3, [2])]),
  (180, [(.iconst 0, 1, []), (.ireturn, 1, [])])]
abbrev M_X12_goOn : Md := (257, 12, 10, (some .boolean), P_X12_goOn)
theorem ok_X12_goOn : k_okM M_X12_goOn := by unfold k_okM; decide +kernel
def P_X12_isPlainFrom : CB := [(0, [(.iload_n 2, 1, []), (.istore 4, 2, []), (.nop, 0, [1])]),
  (3, [(.iload 4, 2, []), (.iload_n 2, 1, []), (.iload_n 3, 1, []), (.iadd, 1, []), (.if_icmp .ge 67, 3, [6]), (.aload_n 0, 1, []), (.getfield 107, 3, [12, 44, 1]), (.iload 4, 2, []), (.iaload, 1, []), (.iload_n 1, 1, []), (.if_icmp .ne 5, 3, [2]), (.iconst 0, 1, []), (.ireturn, 1, [])]),
  (24, [(.iconst 0, 1, []), (.istore 5, 2, []), (.nop, 0, [3])]),
  (27, [(.iload 5, 2, []), (.bipush 6, 2, []), (.if_icmp .ge 38, 3, [5]), (.iload 4, 2, []), (.iload_n 2, 1, []), (.iload_n 3, 1, []), (.iadd, 1, []), (.iconst 1, 1, []), (.isub, 1, []), (.if_icmp .ge 28, 3, [5]), (.aload_n 0, 1, []), (.aload_n 0, 1, []), (.getfield 107, 3, [12, 44, 1]), (.iload 4, 2, []), (.iaload, 1, []), (.iload 5, 2, []), (.invokevirtual 229, 3, [204, 3, 12]), (.iload_n 1, 1, []), (.if_icmp .ne 5, 3, [4]), (.iconst 0, 1, []), (.ireturn, 1, [])]),
  (63, [(.iinc 5 1, 3, []), (.goto (-39), 3, [3])]),
  (69, [(.iinc 4 1, 3, []), (.goto (-69), 3, [1])]),
  (75, [(.iconst 1, 1, []), (.ireturn, 1, [])])]
abbrev M_X12_isPlainFrom : Md := (258, 12, 6, (some .boolean), P_X12_isPlainFrom)
theorem ok_X12_isPlainFrom : k_okM M_X12_isPlainFrom := by unfold k_okM; decide +kernel
def P_X12_findAll : CB := [(0, [(.iload_n 1, 1, []), (.ifCond .ne 5, 3, [1]), (.iconst 1, 1, []), (.ireturn, 1, [])]),
  (6, [(.iload_n 1, 1, []), (.invokestatic 375, 3, [315, 1]), (.istore_n 3, 1, []), (.aload_n 0, 1, []), (.getfield 107, 3, [12, 44, 1]), (.iload_n 2, 1, []), (.aload_n 0, 1, []), (.getfield 46, 3, [12, 18, 1]), (.iconst 4, 1, []), (.iload_n 3, 1, []), (.imul, 1, []), (.iaload, 1, []), (.iastore, 1, []), (.aload_n 0, 1, []), (.iload_n 1, 1, []), (.iload_n 3, 1, []), (.iload_n 2, 1, []), (.iconst 1, 1, []), (.invokevirtual 372, 3, [257, 5, 12]), (.ireturn, 1, [])])]
abbrev M_X12_findAll : Md := (259, 12, 4, (some .boolean), P_X12_findAll)
theorem ok_X12_findAll : k_okM M_X12_findAll := by unfold k_okM; decide +kernel
def P_X12_together : CB := [(0, [(.iload_n 1, 1, []), (.ifCond .le 39, 3, [1]), (.iload_n 1, 1, []), (.aload_n 0, 1, []), (.getfield 202, 3, [12, 26, 0]), (.ishr, 1, []), (.ifCond .ne 30, 3, [1]), (.iload_n 1, 1, []), (.invokestatic 358, 3, [316, 1]), (.iconst 3, 1, []), (.if_icmp .gt 22, 3, [1]), (.aload_n 0, 1, []), (.getfield 135, 3, [12, 1, 0]), (.aload_n 0, 1, []), (.getfield 139, 3, [12, 2, 0]), (.imul, 1, []), (.aload_n 0, 1, []), (.getfield 142, 3, [12, 3, 0]), (.imul, 1, []), (.bipush 24, 2, []), (.if_icmp .le 5, 3, [2]), (.nop, 0, [1])]),
  (40, [(.iconst (-1), 1, []), (.ireturn, 1, [])]),
  (42, [(.iconst 0, 1, []), (.istore_n 2, 1, []), (.nop, 0, [3])]),
  (44, [(.iload_n 2, 1, []), (.aload_n 0, 1, []), (.getfield 202, 3, [12, 26, 0]), (.if_icmp .ge 39, 3, [6]), (.iload_n 1, 1, []), (.iload_n 2, 1, []), (.ishr, 1, []), (.iconst 1, 1, []), (.iand, 1, []), (.iconst 1, 1, []), (.if_icmp .ne 24, 3, [5]), (.aload_n 0, 1, []), (.getfield 43, 3, [12, 17, 1]), (.iload_n 2, 1, []), (.iaload, 1, []), (.iconst 2, 1, []), (.if_icmp .ne 12, 3, [4]), (.aload_n 0, 1, []), (.getfield 49, 3, [12, 19, 1]), (.iload_n 2, 1, []), (.iaload, 1, []), (.ifCond .le 5, 3, [5]), (.nop, 0, [4])]),
  (80, [(.iconst (-1), 1, []), (.ireturn, 1, [])]),
  (82, [(.iinc 2 1, 3, []), (.goto (-41), 3, [3])]),
  (88, [(.aload_n 0, 1, []), (.iconst 1, 1, []), (.invokevirtual 309, 3, [236, 2, 12]), (.aload_n 0, 1, []), (.iload_n 1, 1, []), (.putfield 240, 3, [12, 28, 0]), (.aload_n 0, 1, []), (.iload_n 1, 1, []), (.iconst 0, 1, []), (.invokevirtual 366, 3, [259, 3, 12]), (.istore_n 2, 1, []), (.aload_n 0, 1, []), (.iconst 0, 1, []), (.putfield 240, 3, [12, 28, 0]), (.iload_n 2, 1, []), (.ifCond .eq 7, 3, [7]), (.iconst 1, 1, []), (.goto 4, 3, [8])]),
  (118, [(.iconst 0, 1, []), (.nop, 0, [8])]),
  (119, [(.ireturn, 1, [])])]
abbrev M_X12_together : Md := (260, 12, 3, (some .int), P_X12_together)
theorem ok_X12_together : k_okM M_X12_together := by unfold k_okM; decide +kernel
end
section
/-! code as data (written by wip/whole/gencode.py) -/
def P_X12_lengthOf : CB := [(0, [(.iconst 0, 1, []), (.istore_n 2, 1, []), (.iconst 0, 1, []), (.istore_n 3, 1, []), (.nop, 0, [1])]),
  (4, [(.iload_n 3, 1, []), (.aload_n 0, 1, []), (.getfield 58, 3, [12, 22, 1]), (.iload_n 1, 1, []), (.iaload, 1, []), (.if_icmp .ge 50, 3, [4]), (.iload_n 2, 1, []), (.aload_n 0, 1, []), (.getfield 61, 3, [12, 23, 1]), (.sipush 2400, 3, []), (.iload_n 1, 1, []), (.imul, 1, []), (.iload_n 3, 1, []), (.iadd, 1, []), (.iaload, 1, []), (.invokestatic 211, 3, [203, 1]), (.aload_n 0, 1, []), (.getfield 64, 3, [12, 24, 1]), (.sipush 2400, 3, []), (.iload_n 1, 1, []), (.imul, 1, []), (.iload_n 3, 1, []), (.iadd, 1, []), (.iaload, 1, []), (.invokestatic 211, 3, [203, 1]), (.if_icmp .ne 7, 3, [2]), (.iconst 1, 1, []), (.goto 4, 3, [3])]),
  (52, [(.iconst 0, 1, []), (.nop, 0, [3])]),
  (53, [(.iadd, 1, []), (.istore_n 2, 1, []), (.iinc 3 1, 3, []), (.goto (-54), 3, [1])]),
  (61, [(.iload_n 2, 1, []), (.ireturn, 1, [])])]
abbrev M_X12_lengthOf : Md := (261, 12, 4, (some .int), P_X12_lengthOf)
theorem ok_X12_lengthOf : k_okM M_X12_lengthOf := by unfold k_okM; decide +kernel
def P_X12_about : CB := [(0, [(.aload_n 0, 1, []), (.iload_n 1, 1, []), (.invokevirtual 220, 3, [198, 2, 12]), (.ifCond .eq 12, 3, [1]), (.iload_n 2, 1, []), (.iconst 0, 1, []), (.iconst 4, 1, []), (.invokestatic 175, 3, [179, 3]), (.ifCond .ne 5, 3, [2]), (.nop, 0, [1])]),
  (17, [(.iconst (-1), 1, []), (.ireturn, 1, [])]),
  (19, [(.iconst 0, 1, []), (.istore_n 3, 1, []), (.iconst 0, 1, []), (.istore 4, 2, []), (.nop, 0, [3])]),
  (24, [(.iload 4, 2, []), (.sipush 324, 3, []), (.if_icmp .ge 27, 3, [6]), (.iload_n 3, 1, []), (.aload_n 0, 1, []), (.iload_n 1, 1, []), (.iload 4, 2, []), (.invokevirtual 236, 3, [213, 3, 12]), (.ifCond .eq 7, 3, [4]), (.iconst 1, 1, []), (.goto 4, 3, [5])]),
  (47, [(.iconst 0, 1, []), (.nop, 0, [5])]),
  (48, [(.iadd, 1, []), (.istore_n 3, 1, []), (.iinc 4 1, 3, []), (.goto (-29), 3, [3])]),
  (56, [(.aload_n 0, 1, []), (.iload_n 1, 1, []), (.invokevirtual 378, 3, [261, 2, 12]), (.istore 4, 2, []), (.iload_n 2, 1, []), (.ifCond .ne 8, 3, [7]), (.iload 4, 2, []), (.goto 49, 3, [11])]),
  (72, [(.iload_n 2, 1, []), (.iconst 1, 1, []), (.if_icmp .ne 15, 3, [8]), (.aload_n 0, 1, []), (.getfield 58, 3, [12, 22, 1]), (.iload_n 1, 1, []), (.iaload, 1, []), (.iload 4, 2, []), (.isub, 1, []), (.goto 32, 3, [11])]),
  (89, [(.iload_n 2, 1, []), (.iconst 2, 1, []), (.if_icmp .ne 7, 3, [9]), (.iload_n 3, 1, []), (.goto 23, 3, [11])]),
  (98, [(.iload_n 2, 1, []), (.iconst 3, 1, []), (.if_icmp .ne 12, 3, [10]), (.aload_n 0, 1, []), (.getfield 43, 3, [12, 17, 1]), (.iload_n 1, 1, []), (.iaload, 1, []), (.goto 9, 3, [11])]),
  (112, [(.aload_n 0, 1, []), (.getfield 40, 3, [12, 16, 1]), (.iload_n 1, 1, []), (.iaload, 1, []), (.nop, 0, [11])]),
  (118, [(.ireturn, 1, [])])]
abbrev M_X12_about : Md := (262, 12, 5, (some .int), P_X12_about)
theorem ok_X12_about : k_okM M_X12_about := by unfold k_okM; decide +kernel
def P_X12_isStretched : CB := [(0, [(.aload_n 0, 1, []), (.iload_n 1, 1, []), (.invokevirtual 220, 3, [198, 2, 12]), (.ifCond .eq 35, 3, [1]), (.aload_n 0, 1, []), (.getfield 43, 3, [12, 17, 1]), (.iload_n 1, 1, []), (.iaload, 1, []), (.iconst 2, 1, []), (.if_icmp .ne 25, 3, [1]), (.aload_n 0, 1, []), (.getfield 49, 3, [12, 19, 1]), (.iload_n 1, 1, []), (.iaload, 1, []), (.ifCond .ne 16, 3, [1]), (.aload_n 0, 1, []), (.getfield 58, 3, [12, 22, 1]), (.iload_n 1, 1, []), (.iaload, 1, []), (.ifCond .le 7, 3, [1]), (.iconst 1, 1, []), (.goto 4, 3, [2])]),
  (40, [(.iconst 0, 1, []), (.nop, 0, [2])]),
  (41, [(.ireturn, 1, [])])]
abbrev M_X12_isStretched : Md := (263, 12, 2, (some .boolean), P_X12_isStretched)
theorem ok_X12_isStretched : k_okM M_X12_isStretched := by unfold k_okM; decide +kernel
def P_X12_wayFrom : CB := [(0, [(.iconst 0, 1, []), (.istore_n 3, 1, []), (.nop, 0, [1])]),
  (2, [(.aload_n 0, 1, []), (.iload_n 1, 1, []), (.iload_n 3, 1, []), (.invokevirtual 229, 3, [204, 3, 12]), (.iload_n 2, 1, []), (.if_icmp .eq 9, 3, [2]), (.iinc 3 1, 3, []), (.goto (-13), 3, [1])]),
  (18, [(.iload_n 3, 1, []), (.ireturn, 1, [])])]
abbrev M_X12_wayFrom : Md := (264, 12, 4, (some .int), P_X12_wayFrom)
theorem ok_X12_wayFrom : k_okM M_X12_wayFrom := by unfold k_okM; decide +kernel
def P_X12_isRoom : CB := [(0, [(.iload_n 2, 1, []), (.iconst (-1), 1, []), (.if_icmp .eq 26, 3, [1]), (.aload_n 0, 1, []), (.iload_n 1, 1, []), (.iload_n 2, 1, []), (.iconst 0, 1, []), (.invokevirtual 259, 3, [218, 4, 12]), (.ifCond .eq 16, 3, [1]), (.aload_n 0, 1, []), (.iload_n 1, 1, []), (.iload_n 2, 1, []), (.invokevirtual 236, 3, [213, 3, 12]), (.ifCond .ne 7, 3, [1]), (.iconst 1, 1, []), (.goto 4, 3, [2])]),
  (28, [(.iconst 0, 1, []), (.nop, 0, [2])]),
  (29, [(.ireturn, 1, [])])]
abbrev M_X12_isRoom : Md := (265, 12, 3, (some .boolean), P_X12_isRoom)
theorem ok_X12_isRoom : k_okM M_X12_isRoom := by unfold k_okM; decide +kernel
def P_X12_bulge : CB := [(0, [(.aload_n 0, 1, []), (.iload_n 2, 1, []), (.iload 4, 2, []), (.invokevirtual 229, 3, [204, 3, 12]), (.istore 5, 2, []), (.aload_n 0, 1, []), (.iload_n 3, 1, []), (.iload 4, 2, []), (.invokevirtual 229, 3, [204, 3, 12]), (.istore 6, 2, []), (.aload_n 0, 1, []), (.iload_n 1, 1, []), (.iload 5, 2, []), (.invokevirtual 381, 3, [265, 3, 12]), (.ifCond .eq 13, 3, [1]), (.aload_n 0, 1, []), (.iload_n 1, 1, []), (.iload 6, 2, []), (.invokevirtual 381, 3, [265, 3, 12]), (.ifCond .ne 5, 3, [2]), (.nop, 0, [1])]),
  (38, [(.iconst 0, 1, []), (.ireturn, 1, [])]),
  (40, [(.aload_n 0, 1, []), (.iload_n 1, 1, []), (.iload_n 2, 1, []), (.iload 5, 2, []), (.invokevirtual 293, 3, [223, 4, 12]), (.aload_n 0, 1, []), (.iload_n 1, 1, []), (.iload 5, 2, []), (.iload 6, 2, []), (.invokevirtual 293, 3, [223, 4, 12]), (.aload_n 0, 1, []), (.iload_n 1, 1, []), (.iload 6, 2, []), (.iload_n 3, 1, []), (.invokevirtual 293, 3, [223, 4, 12]), (.iconst 1, 1, []), (.ireturn, 1, [])])]
abbrev M_X12_bulge : Md := (266, 12, 7, (some .boolean), P_X12_bulge)
theorem ok_X12_bulge : k_okM M_X12_bulge := by unfold k_okM; decide +kernel
def P_X12_stretched : CB := [(0, [(.aload_n 0, 1, []), (.iconst 1, 1, []), (.invokevirtual 309, 3, [236, 2, 12]), (.aload_n 0, 1, []), (.iload_n 1, 1, []), (.invokevirtual 296, 3, [221, 2, 12]), (.iconst 0, 1, []), (.istore_n 3, 1, []), (.nop, 0, [1])]),
  (12, [(.iload_n 3, 1, []), (.aload_n 0, 1, []), (.getfield 263, 3, [12, 33, 0]), (.if_icmp .ge 51, 3, [2]), (.aload_n 0, 1, []), (.getfield 71, 3, [12, 27, 1]), (.sipush 324, 3, []), (.iload_n 1, 1, []), (.imul, 1, []), (.aload_n 0, 1, []), (.getfield 74, 3, [12, 31, 1]), (.iload_n 3, 1, []), (.iaload, 1, []), (.iadd, 1, []), (.dup2, 1, []), (.iaload, 1, []), (.iconst 4, 1, []), (.ior, 1, []), (.iastore, 1, []), (.aload_n 0, 1, []), (.getfield 71, 3, [12, 27, 1]), (.sipush 324, 3, []), (.iload_n 1, 1, []), (.imul, 1, []), (.aload_n 0, 1, []), (.getfield 77, 3, [12, 32, 1]), (.iload_n 3, 1, []), (.iaload, 1, []), (.iadd, 1, []), (.dup2, 1, []), (.iaload, 1, []), (.iconst 4, 1, []), (.ior, 1, []), (.iastore, 1, []), (.iinc 3 1, 3, []), (.goto (-53), 3, [1])]),
  (68, [(.iconst 0, 1, []), (.istore_n 3, 1, []), (.iconst 0, 1, []), (.istore 4, 2, []), (.nop, 0, [3])]),
  (73, [(.iload 4, 2, []), (.aload_n 0, 1, []), (.getfield 263, 3, [12, 33, 0]), (.if_icmp .ge 40, 3, [6]), (.iload_n 3, 1, []), (.aload_n 0, 1, []), (.getfield 74, 3, [12, 31, 1]), (.iload 4, 2, []), (.iaload, 1, []), (.invokestatic 211, 3, [203, 1]), (.aload_n 0, 1, []), (.getfield 77, 3, [12, 32, 1]), (.iload 4, 2, []), (.iaload, 1, []), (.invokestatic 211, 3, [203, 1]), (.if_icmp .ne 7, 3, [4]), (.iconst 1, 1, []), (.goto 4, 3, [5])]),
  (110, [(.iconst 0, 1, []), (.nop, 0, [5])]),
  (111, [(.iadd, 1, []), (.istore_n 3, 1, []), (.iinc 4 1, 3, []), (.goto (-43), 3, [3])]),
  (119, [(.iconst 0, 1, []), (.istore 4, 2, []), (.nop, 0, [7])]),
  (122, [(.iload 4, 2, []), (.aload_n 0, 1, []), (.getfield 263, 3, [12, 33, 0]), (.if_icmp .ge 135, 3, [13]), (.aload_n 0, 1, []), (.aload_n 0, 1, []), (.getfield 74, 3, [12, 31, 1]), (.iload 4, 2, []), (.iaload, 1, []), (.aload_n 0, 1, []), (.getfield 77, 3, [12, 32, 1]), (.iload 4, 2, []), (.iaload, 1, []), (.invokevirtual 384, 3, [264, 3, 12]), (.istore 5, 2, []), (.iload 5, 2, []), (.iconst 4, 1, []), (.if_icmp .ge 70, 3, [9]), (.iload_n 3, 1, []), (.iconst 2, 1, []), (.iadd, 1, []), (.iload_n 2, 1, []), (.if_icmp .gt 63, 3, [9]), (.aload_n 0, 1, []), (.iload_n 1, 1, []), (.aload_n 0, 1, []), (.getfield 74, 3, [12, 31, 1]), (.iload 4, 2, []), (.iaload, 1, []), (.aload_n 0, 1, []), (.getfield 77, 3, [12, 32, 1]), (.iload 4, 2, []), (.iaload, 1, []), (.iload 5, 2, []), (.iconst 3, 1, []), (.iadd, 1, []), (.iconst 4, 1, []), (.irem, 1, []), (.invokevirtual 387, 3, [266, 5, 12]), (.ifCond .ne 31, 3, [8]), (.aload_n 0, 1, []), (.iload_n 1, 1, []), (.aload_n 0, 1, []), (.getfield 74, 3, [12, 31, 1]), (.iload 4, 2, []), (.iaload, 1, []), (.aload_n 0, 1, []), (.getfield 77, 3, [12, 32, 1]), (.iload 4, 2, []), (.iaload, 1, []), (.iload 5, 2, []), (.iconst 1, 1, []), (.iadd, 1, []), (.iconst 4, 1, []), (.irem, 1, []), (.invokevirtual 387, 3, [266, 5, 12]), (.ifCond .eq 7, 3, [9]), (.nop, 0, [8])]),
  (220, [(.iconst 1, 1, []), (.goto 4, 3, [10])]),
  (224, [(.iconst 0, 1, []), (.nop, 0, [10])]),
  (225, [(.istore 6, 2, []), (.iload 6, 2, []), (.ifCond .eq 9, 3, [11]), (.iinc 3 2, 3, []), (.goto 22, 3, [12])]),
  (238, [(.aload_n 0, 1, []), (.iload_n 1, 1, []), (.aload_n 0, 1, []), (.getfield 74, 3, [12, 31, 1]), (.iload 4, 2, []), (.iaload, 1, []), (.aload_n 0, 1, []), (.getfield 77, 3, [12, 32, 1]), (.iload 4, 2, []), (.iaload, 1, []), (.invokevirtual 293, 3, [223, 4, 12]), (.nop, 0, [12])]),
  (257, [(.iinc 4 1, 3, []), (.goto (-138), 3, [7])]),
  (263, [(.iconst 0, 1, []), (.istore 4, 2, []), (.nop, 0, [14])]),
  (266, [(.iload 4, 2, []), (.sipush 324, 3, []), (.if_icmp .ge 26, 3, [15]), (.aload_n 0, 1, []), (.getfield 71, 3, [12, 27, 1]), (.sipush 324, 3, []), (.iload_n 1, 1, []), (.imul, 1, []), (.iload 4, 2, []), (.iadd, 1, []), (.dup2, 1, []), (.iaload, 1, []), (.iconst 3, 1, []), (.iand, 1, []), (.iastore, 1, []), (.iinc 4 1, 3, []), (.goto (-28), 3, [14])]),
  (297, [(.iload_n 3, 1, []), (.ireturn, 1, [])])]
abbrev M_X12_stretched : Md := (267, 12, 7, (some .int), P_X12_stretched)
theorem ok_X12_stretched : k_okM M_X12_stretched := by unfold k_okM; decide +kernel
def P_X12_stretch : CB := [(0, [(.aload_n 0, 1, []), (.iload_n 1, 1, []), (.invokevirtual 390, 3, [263, 2, 12]), (.ifCond .eq 23, 3, [1]), (.iload_n 2, 1, []), (.iconst 0, 1, []), (.sipush 200, 3, []), (.invokestatic 175, 3, [179, 3]), (.ifCond .eq 12, 3, [1]), (.aload_n 0, 1, []), (.iload_n 1, 1, []), (.iload_n 2, 1, []), (.invokevirtual 393, 3, [267, 3, 12]), (.goto 4, 3, [2])]),
  (28, [(.iconst (-1), 1, []), (.nop, 0, [2])]),
  (29, [(.ireturn, 1, [])])]
abbrev M_X12_stretch : Md := (268, 12, 3, (some .int), P_X12_stretch)
theorem ok_X12_stretch : k_okM M_X12_stretch := by unfold k_okM; decide +kernel
def P_X12_span : CB := [(0, [(.aload_n 0, 1, []), (.iload_n 1, 1, []), (.invokevirtual 390, 3, [263, 2, 12]), (.ifCond .ne 5, 3, [1]), (.iconst (-1), 1, []), (.ireturn, 1, [])]),
  (10, [(.aload_n 0, 1, []), (.iload_n 1, 1, []), (.ldc_w 272, 3, [1000000000]), (.invokevirtual 393, 3, [267, 3, 12]), (.istore_n 2, 1, []), (.aload_n 0, 1, []), (.iload_n 1, 1, []), (.invokevirtual 306, 3, [222, 2, 12]), (.iload_n 2, 1, []), (.ireturn, 1, [])])]
abbrev M_X12_span : Md := (269, 12, 3, (some .int), P_X12_span)
theorem ok_X12_span : k_okM M_X12_span := by unfold k_okM; decide +kernel
def P_X12_equal : CB := [(0, [(.iload_n 1, 1, []), (.ifCond .le 23, 3, [1]), (.iload_n 1, 1, []), (.aload_n 0, 1, []), (.getfield 202, 3, [12, 26, 0]), (.ishr, 1, []), (.ifCond .ne 14, 3, [1]), (.iload_n 2, 1, []), (.iconst 0, 1, []), (.sipush 200, 3, []), (.invokestatic 175, 3, [179, 3]), (.ifCond .ne 5, 3, [2]), (.nop, 0, [1])]),
  (24, [(.iconst (-1), 1, []), (.ireturn, 1, [])]),
  (26, [(.ldc_w 272, 3, [1000000000]), (.istore_n 3, 1, []), (.iconst 0, 1, []), (.istore 4, 2, []), (.iconst 0, 1, []), (.istore 5, 2, []), (.nop, 0, [3])]),
  (36, [(.iload 5, 2, []), (.aload_n 0, 1, []), (.getfield 202, 3, [12, 26, 0]), (.if_icmp .ge 43, 3, [5]), (.iload_n 1, 1, []), (.iload 5, 2, []), (.ishr, 1, []), (.iconst 1, 1, []), (.iand, 1, []), (.iconst 1, 1, []), (.if_icmp .ne 27, 3, [4]), (.iload_n 3, 1, []), (.aload_n 0, 1, []), (.iload 5, 2, []), (.invokevirtual 378, 3, [261, 2, 12]), (.invokestatic 3, 3, [1]), (.istore_n 3, 1, []), (.iload 4, 2, []), (.aload_n 0, 1, []), (.iload 5, 2, []), (.invokevirtual 378, 3, [261, 2, 12]), (.invokestatic 9, 3, [0]), (.istore 4, 2, []), (.nop, 0, [4])]),
  (79, [(.iinc 5 1, 3, []), (.goto (-46), 3, [3])]),
  (85, [(.iload 4, 2, []), (.iload_n 3, 1, []), (.isub, 1, []), (.iload_n 2, 1, []), (.if_icmp .gt 7, 3, [6]), (.iconst 1, 1, []), (.goto 4, 3, [7])]),
  (97, [(.iconst 0, 1, []), (.nop, 0, [7])]),
  (98, [(.ireturn, 1, [])])]
abbrev M_X12_equal : Md := (270, 12, 6, (some .int), P_X12_equal)
theorem ok_X12_equal : k_okM M_X12_equal := by unfold k_okM; decide +kernel
def P_X12_spread : CB := [(0, [(.aload_n 0, 1, []), (.iconst 1, 1, []), (.invokevirtual 309, 3, [236, 2, 12]), (.iconst 0, 1, []), (.istore_n 3, 1, []), (.nop, 0, [1])]),
  (7, [(.iload_n 3, 1, []), (.bipush 81, 2, []), (.if_icmp .ge 48, 3, [4]), (.bipush 81, 2, []), (.iload_n 2, 1, []), (.imul, 1, []), (.iload_n 3, 1, []), (.iadd, 1, []), (.istore 4, 2, []), (.aload_n 0, 1, []), (.getfield 110, 3, [12, 45, 1]), (.iload_n 3, 1, []), (.aload_n 0, 1, []), (.iload 4, 2, []), (.invokevirtual 328, 3, [246, 2, 12]), (.ifCond .eq 18, 3, [2]), (.aload_n 0, 1, []), (.iload_n 1, 1, []), (.iload 4, 2, []), (.iconst 1, 1, []), (.invokevirtual 259, 3, [218, 4, 12]), (.ifCond .eq 7, 3, [2]), (.iconst 1, 1, []), (.goto 4, 3, [3])]),
  (50, [(.iconst 0, 1, []), (.nop, 0, [3])]),
  (51, [(.bastore, 1, []), (.iinc 3 1, 3, []), (.goto (-48), 3, [1])]),
  (58, [(.return_, 1, [])])]
abbrev M_X12_spread : Md := (271, 12, 5, none, P_X12_spread)
theorem ok_X12_spread : k_okM M_X12_spread := by unfold k_okM; decide +kernel
def P_X12_parts : CB := [(0, [(.iconst 0, 1, []), (.istore 5, 2, []), (.nop, 0, [1])]),
  (3, [(.iload 5, 2, []), (.bipush 81, 2, []), (.if_icmp .ge 38, 3, [4]), (.aload_n 0, 1, []), (.getfield 113, 3, [12, 46, 1]), (.iload 5, 2, []), (.aload_n 0, 1, []), (.getfield 110, 3, [12, 45, 1]), (.iload 5, 2, []), (.baload, 1, []), (.ifCond .eq 14, 3, [2]), (.iload 5, 2, []), (.iload_n 3, 1, []), (.if_icmp .eq 8, 3, [2]), (.iload 5, 2, []), (.goto 4, 3, [3])]),
  (37, [(.iconst (-1), 1, []), (.nop, 0, [3])]),
  (38, [(.iastore, 1, []), (.iinc 5 1, 3, []), (.goto (-39), 3, [1])]),
  (45, [(.iconst 1, 1, []), (.istore 5, 2, []), (.nop, 0, [5])]),
  (48, [(.iload 5, 2, []), (.ifCond .eq 47, 3, [11]), (.iconst 0, 1, []), (.istore 5, 2, []), (.iconst 0, 1, []), (.istore 6, 2, []), (.nop, 0, [6])]),
  (59, [(.iload 6, 2, []), (.bipush 81, 2, []), (.if_icmp .ge 31, 3, [10]), (.aload_n 0, 1, []), (.iload 6, 2, []), (.iload_n 2, 1, []), (.invokevirtual 396, 3, [273, 3, 12]), (.ifCond .ne 8, 3, [7]), (.iload 5, 2, []), (.ifCond .eq 7, 3, [8]), (.nop, 0, [7])]),
  (81, [(.iconst 1, 1, []), (.goto 4, 3, [9])]),
  (85, [(.iconst 0, 1, []), (.nop, 0, [9])]),
  (86, [(.istore 5, 2, []), (.iinc 6 1, 3, []), (.goto (-32), 3, [6])]),
  (94, [(.goto (-46), 3, [5])]),
  (97, [(.iconst 0, 1, []), (.istore 6, 2, []), (.iconst 0, 1, []), (.istore 7, 2, []), (.nop, 0, [12])]),
  (103, [(.iload 7, 2, []), (.bipush 81, 2, []), (.if_icmp .ge 96, 3, [21]), (.aload_n 0, 1, []), (.getfield 113, 3, [12, 46, 1]), (.iload 7, 2, []), (.iaload, 1, []), (.iload 7, 2, []), (.if_icmp .ne 78, 3, [20]), (.iconst 0, 1, []), (.istore 8, 2, []), (.iconst 0, 1, []), (.istore 9, 2, []), (.nop, 0, [13])]),
  (128, [(.iload 9, 2, []), (.bipush 81, 2, []), (.if_icmp .ge 48, 3, [17]), (.iload 8, 2, []), (.ifCond .ne 30, 3, [14]), (.aload_n 0, 1, []), (.getfield 113, 3, [12, 46, 1]), (.iload 9, 2, []), (.iaload, 1, []), (.iload 7, 2, []), (.if_icmp .ne 22, 3, [15]), (.aload_n 0, 1, []), (.iload_n 1, 1, []), (.bipush 81, 2, []), (.iload_n 2, 1, []), (.imul, 1, []), (.iload 9, 2, []), (.iadd, 1, []), (.invokevirtual 236, 3, [213, 3, 12]), (.ifCond .eq 7, 3, [15]), (.nop, 0, [14])]),
  (167, [(.iconst 1, 1, []), (.goto 4, 3, [16])]),
  (171, [(.iconst 0, 1, []), (.nop, 0, [16])]),
  (172, [(.istore 8, 2, []), (.iinc 9 1, 3, []), (.goto (-49), 3, [13])]),
  (180, [(.iload 6, 2, []), (.iload 8, 2, []), (.iload 4, 2, []), (.if_icmp .ne 7, 3, [18]), (.iconst 1, 1, []), (.goto 4, 3, [19])]),
  (193, [(.iconst 0, 1, []), (.nop, 0, [19])]),
  (194, [(.iadd, 1, []), (.istore 6, 2, []), (.nop, 0, [20])]),
  (197, [(.iinc 7 1, 3, []), (.goto (-97), 3, [12])]),
  (203, [(.iload 6, 2, []), (.ireturn, 1, [])])]
abbrev M_X12_parts : Md := (272, 12, 10, (some .int), P_X12_parts)
theorem ok_X12_parts : k_okM M_X12_parts := by unfold k_okM; decide +kernel
def P_X12_mingle : CB := [(0, [(.iconst 0, 1, []), (.istore_n 3, 1, []), (.iconst 0, 1, []), (.istore 4, 2, []), (.nop, 0, [1])]),
  (5, [(.iload 4, 2, []), (.iconst 4, 1, []), (.if_icmp .ge 100, 3, [5]), (.aload_n 0, 1, []), (.getfield 113, 3, [12, 46, 1]), (.iload_n 1, 1, []), (.iaload, 1, []), (.iconst (-1), 1, []), (.if_icmp .eq 90, 3, [5]), (.aload_n 0, 1, []), (.bipush 81, 2, []), (.iload_n 2, 1, []), (.imul, 1, []), (.iload_n 1, 1, []), (.iadd, 1, []), (.iload 4, 2, []), (.invokevirtual 229, 3, [204, 3, 12]), (.istore 5, 2, []), (.iload 5, 2, []), (.iconst (-1), 1, []), (.if_icmp .ne 7, 3, [2]), (.iconst (-1), 1, []), (.goto 10, 3, [3])]),
  (45, [(.iload 5, 2, []), (.bipush 81, 2, []), (.iload_n 2, 1, []), (.imul, 1, []), (.isub, 1, []), (.nop, 0, [3])]),
  (52, [(.istore 6, 2, []), (.iload 6, 2, []), (.iconst (-1), 1, []), (.if_icmp .eq 45, 3, [4]), (.aload_n 0, 1, []), (.getfield 113, 3, [12, 46, 1]), (.iload 6, 2, []), (.iaload, 1, []), (.iconst (-1), 1, []), (.if_icmp .eq 34, 3, [4]), (.aload_n 0, 1, []), (.getfield 113, 3, [12, 46, 1]), (.iload 6, 2, []), (.iaload, 1, []), (.aload_n 0, 1, []), (.getfield 113, 3, [12, 46, 1]), (.iload_n 1, 1, []), (.iaload, 1, []), (.if_icmp .ge 18, 3, [4]), (.aload_n 0, 1, []), (.getfield 113, 3, [12, 46, 1]), (.iload_n 1, 1, []), (.aload_n 0, 1, []), (.getfield 113, 3, [12, 46, 1]), (.iload 6, 2, []), (.iaload, 1, []), (.iastore, 1, []), (.iconst 1, 1, []), (.istore_n 3, 1, []), (.nop, 0, [4])]),
  (102, [(.iinc 4 1, 3, []), (.goto (-100), 3, [1])]),
  (108, [(.iload_n 3, 1, []), (.ireturn, 1, [])])]
abbrev M_X12_mingle : Md := (273, 12, 7, (some .boolean), P_X12_mingle)
theorem ok_X12_mingle : k_okM M_X12_mingle := by unfold k_okM; decide +kernel
end
section
/-! code as data (written by wip/whole/gencode.py) -/
def P_X12_plane : CB := [(0, [(.aload_n 0, 1, []), (.iload_n 1, 1, []), (.invokevirtual 220, 3, [198, 2, 12]), (.ifCond .eq 26, 3, [1]), (.iload_n 2, 1, []), (.iconst 0, 1, []), (.aload_n 0, 1, []), (.getfield 142, 3, [12, 3, 0]), (.iconst 1, 1, []), (.isub, 1, []), (.invokestatic 175, 3, [179, 3]), (.ifCond .eq 12, 3, [1]), (.iload_n 3, 1, []), (.iconst 0, 1, []), (.iconst 3, 1, []), (.invokestatic 175, 3, [179, 3]), (.ifCond .ne 5, 3, [2]), (.nop, 0, [1])]),
  (31, [(.iconst (-1), 1, []), (.ireturn, 1, [])]),
  (33, [(.aload_n 0, 1, []), (.iload_n 1, 1, []), (.iload_n 2, 1, []), (.invokevirtual 399, 3, [271, 3, 12]), (.aload_n 0, 1, []), (.iload_n 1, 1, []), (.iload_n 2, 1, []), (.iconst (-1), 1, []), (.iconst 1, 1, []), (.invokevirtual 402, 3, [272, 5, 12]), (.istore 4, 2, []), (.iload_n 3, 1, []), (.iconst 1, 1, []), (.if_icmp .ne 6, 3, [3]), (.iload 4, 2, []), (.ireturn, 1, [])]),
  (57, [(.iload_n 3, 1, []), (.iconst 2, 1, []), (.if_icmp .ne 12, 3, [4]), (.aload_n 0, 1, []), (.iload_n 1, 1, []), (.iload_n 2, 1, []), (.iconst (-1), 1, []), (.iconst 0, 1, []), (.invokevirtual 402, 3, [272, 5, 12]), (.ireturn, 1, [])]),
  (71, [(.iconst 0, 1, []), (.istore 5, 2, []), (.iconst 0, 1, []), (.istore 6, 2, []), (.nop, 0, [5])]),
  (77, [(.iload 6, 2, []), (.bipush 81, 2, []), (.if_icmp .ge 62, 3, [10]), (.aload_n 0, 1, []), (.getfield 110, 3, [12, 45, 1]), (.iload 6, 2, []), (.baload, 1, []), (.ifCond .eq 46, 3, [9]), (.iload 5, 2, []), (.iload_n 3, 1, []), (.ifCond .eq 32, 3, [6]), (.aload_n 0, 1, []), (.iload_n 1, 1, []), (.bipush 81, 2, []), (.iload_n 2, 1, []), (.imul, 1, []), (.iload 6, 2, []), (.iadd, 1, []), (.invokevirtual 236, 3, [213, 3, 12]), (.ifCond .ne 21, 3, [7]), (.aload_n 0, 1, []), (.iload_n 1, 1, []), (.iload_n 2, 1, []), (.iload 6, 2, []), (.iconst 1, 1, []), (.invokevirtual 402, 3, [272, 5, 12]), (.iload 4, 2, []), (.if_icmp .le 7, 3, [7]), (.nop, 0, [6])]),
  (129, [(.iconst 1, 1, []), (.goto 4, 3, [8])]),
  (133, [(.iconst 0, 1, []), (.nop, 0, [8])]),
  (134, [(.iadd, 1, []), (.istore 5, 2, []), (.nop, 0, [9])]),
  (137, [(.iinc 6 1, 3, []), (.goto (-63), 3, [5])]),
  (143, [(.iload 5, 2, []), (.ireturn, 1, [])])]
abbrev M_X12_plane : Md := (274, 12, 7, (some .int), P_X12_plane)
theorem ok_X12_plane : k_okM M_X12_plane := by unfold k_okM; decide +kernel
def P_X12_spokes : CB := [(0, [(.aload_n 0, 1, []), (.iload_n 1, 1, []), (.invokevirtual 220, 3, [198, 2, 12]), (.ifCond .eq 19, 3, [1]), (.iload_n 2, 1, []), (.iconst 0, 1, []), (.aload_n 0, 1, []), (.getfield 43, 3, [12, 17, 1]), (.iload_n 1, 1, []), (.iaload, 1, []), (.iconst 1, 1, []), (.isub, 1, []), (.invokestatic 175, 3, [179, 3]), (.ifCond .ne 5, 3, [2]), (.nop, 0, [1])]),
  (24, [(.iconst (-1), 1, []), (.ireturn, 1, [])]),
  (26, [(.aload_n 0, 1, []), (.getfield 46, 3, [12, 18, 1]), (.iconst 4, 1, []), (.iload_n 1, 1, []), (.imul, 1, []), (.iload_n 2, 1, []), (.iadd, 1, []), (.iaload, 1, []), (.istore_n 3, 1, []), (.aload_n 0, 1, []), (.iload_n 1, 1, []), (.iload_n 3, 1, []), (.invokestatic 211, 3, [203, 1]), (.invokevirtual 399, 3, [271, 3, 12]), (.iconst 0, 1, []), (.istore 4, 2, []), (.iconst 0, 1, []), (.istore 5, 2, []), (.nop, 0, [3])]),
  (52, [(.iload 5, 2, []), (.iconst 4, 1, []), (.if_icmp .ge 47, 3, [6]), (.aload_n 0, 1, []), (.iload_n 3, 1, []), (.iload 5, 2, []), (.invokevirtual 229, 3, [204, 3, 12]), (.istore 6, 2, []), (.iload 4, 2, []), (.iload 6, 2, []), (.iconst (-1), 1, []), (.if_icmp .eq 20, 3, [4]), (.aload_n 0, 1, []), (.getfield 110, 3, [12, 45, 1]), (.iload 6, 2, []), (.bipush 81, 2, []), (.irem, 1, []), (.baload, 1, []), (.ifCond .eq 7, 3, [4]), (.iconst 1, 1, []), (.goto 4, 3, [5])]),
  (92, [(.iconst 0, 1, []), (.nop, 0, [5])]),
  (93, [(.iadd, 1, []), (.istore 4, 2, []), (.iinc 5 1, 3, []), (.goto (-47), 3, [3])]),
  (102, [(.iload 4, 2, []), (.ireturn, 1, [])])]
abbrev M_X12_spokes : Md := (275, 12, 7, (some .int), P_X12_spokes)
theorem ok_X12_spokes : k_okM M_X12_spokes := by unfold k_okM; decide +kernel
def P_X12_back : CB := [(0, [(.aload_n 0, 1, []), (.iload_n 1, 1, []), (.invokevirtual 220, 3, [198, 2, 12]), (.ifCond .eq 30, 3, [1]), (.aload_n 0, 1, []), (.iload_n 2, 1, []), (.invokevirtual 220, 3, [198, 2, 12]), (.ifCond .eq 22, 3, [1]), (.iload_n 1, 1, []), (.iload_n 2, 1, []), (.if_icmp .eq 17, 3, [1]), (.iload_n 3, 1, []), (.iconst 0, 1, []), (.aload_n 0, 1, []), (.getfield 142, 3, [12, 3, 0]), (.iconst 1, 1, []), (.isub, 1, []), (.invokestatic 175, 3, [179, 3]), (.ifCond .ne 5, 3, [2]), (.nop, 0, [1])]),
  (35, [(.iconst (-1), 1, []), (.ireturn, 1, [])]),
  (37, [(.aload_n 0, 1, []), (.iload_n 2, 1, []), (.iload_n 3, 1, []), (.invokevirtual 399, 3, [271, 3, 12]), (.iconst 0, 1, []), (.istore 4, 2, []), (.iconst 0, 1, []), (.istore 5, 2, []), (.nop, 0, [3])]),
  (49, [(.iload 5, 2, []), (.sipush 324, 3, []), (.if_icmp .ge 63, 3, [7]), (.iload 5, 2, []), (.invokestatic 211, 3, [203, 1]), (.iload_n 3, 1, []), (.isub, 1, []), (.istore 6, 2, []), (.iload 4, 2, []), (.iload 6, 2, []), (.iconst 1, 1, []), (.if_icmp .eq 9, 3, [4]), (.iload 6, 2, []), (.iconst (-1), 1, []), (.if_icmp .ne 30, 3, [5]), (.nop, 0, [4])]),
  (80, [(.aload_n 0, 1, []), (.iload_n 1, 1, []), (.iload 5, 2, []), (.invokevirtual 236, 3, [213, 3, 12]), (.ifCond .eq 20, 3, [5]), (.aload_n 0, 1, []), (.getfield 110, 3, [12, 45, 1]), (.iload 5, 2, []), (.bipush 81, 2, []), (.irem, 1, []), (.baload, 1, []), (.ifCond .ne 7, 3, [5]), (.iconst 1, 1, []), (.goto 4, 3, [6])]),
  (107, [(.iconst 0, 1, []), (.nop, 0, [6])]),
  (108, [(.iadd, 1, []), (.istore 4, 2, []), (.iinc 5 1, 3, []), (.goto (-65), 3, [3])]),
  (117, [(.iload 4, 2, []), (.ireturn, 1, [])])]
abbrev M_X12_back : Md := (276, 12, 7, (some .int), P_X12_back)
theorem ok_X12_back : k_okM M_X12_back := by unfold k_okM; decide +kernel
def P_X12_strike : CB := [(0, [(.iload_n 2, 1, []), (.invokestatic 211, 3, [203, 1]), (.iload_n 3, 1, []), (.invokestatic 211, 3, [203, 1]), (.if_icmp .ne 4, 3, [1]), (.return_, 1, [])]),
  (12, [(.aload_n 0, 1, []), (.iload_n 2, 1, []), (.invokestatic 205, 3, [201, 1]), (.iload 4, 2, []), (.iadd, 1, []), (.iload_n 2, 1, []), (.invokestatic 208, 3, [202, 1]), (.iload 5, 2, []), (.iadd, 1, []), (.iconst 0, 1, []), (.invokevirtual 214, 3, [199, 4, 12]), (.ifCond .ne 14, 3, [2]), (.aload_n 0, 1, []), (.dup, 1, []), (.getfield 406, 3, [12, 48, 0]), (.iconst 1, 1, []), (.iadd, 1, []), (.putfield 406, 3, [12, 48, 0]), (.return_, 1, [])]),
  (45, [(.iload_n 2, 1, []), (.bipush 9, 2, []), (.iload 5, 2, []), (.imul, 1, []), (.iadd, 1, []), (.iload 4, 2, []), (.iadd, 1, []), (.istore 6, 2, []), (.iload_n 3, 1, []), (.bipush 9, 2, []), (.iload 5, 2, []), (.imul, 1, []), (.iadd, 1, []), (.iload 4, 2, []), (.iadd, 1, []), (.istore 7, 2, []), (.iconst 0, 1, []), (.istore 8, 2, []), (.iconst 0, 1, []), (.istore 9, 2, []), (.nop, 0, [3])]),
  (75, [(.iload 9, 2, []), (.aload_n 0, 1, []), (.getfield 202, 3, [12, 26, 0]), (.if_icmp .ge 49, 3, [7]), (.iload 8, 2, []), (.ifCond .ne 31, 3, [4]), (.iload 9, 2, []), (.iload_n 1, 1, []), (.if_icmp .eq 29, 3, [5]), (.aload_n 0, 1, []), (.iload 9, 2, []), (.iload 6, 2, []), (.invokevirtual 236, 3, [213, 3, 12]), (.ifCond .ne 14, 3, [4]), (.aload_n 0, 1, []), (.iload 9, 2, []), (.iload 7, 2, []), (.invokevirtual 236, 3, [213, 3, 12]), (.ifCond .eq 7, 3, [5]), (.nop, 0, [4])]),
  (117, [(.iconst 1, 1, []), (.goto 4, 3, [6])]),
  (121, [(.iconst 0, 1, []), (.nop, 0, [6])]),
  (122, [(.istore 8, 2, []), (.iinc 9 1, 3, []), (.goto (-52), 3, [3])]),
  (130, [(.aload_n 0, 1, []), (.dup, 1, []), (.getfield 409, 3, [12, 47, 0]), (.iload 8, 2, []), (.ifCond .eq 7, 3, [8]), (.iconst 1, 1, []), (.goto 4, 3, [9])]),
  (144, [(.iconst 0, 1, []), (.nop, 0, [9])]),
  (145, [(.iadd, 1, []), (.putfield 409, 3, [12, 47, 0]), (.aload_n 0, 1, []), (.dup, 1, []), (.getfield 406, 3, [12, 48, 0]), (.aload_n 0, 1, []), (.iload_n 1, 1, []), (.iload 6, 2, []), (.invokevirtual 236, 3, [213, 3, 12]), (.ifCond .eq 13, 3, [10]), (.aload_n 0, 1, []), (.iload_n 1, 1, []), (.iload 7, 2, []), (.invokevirtual 236, 3, [213, 3, 12]), (.ifCond .ne 7, 3, [11]), (.nop, 0, [10])]),
  (174, [(.iconst 1, 1, []), (.goto 4, 3, [12])]),
  (178, [(.iconst 0, 1, []), (.nop, 0, [12])]),
  (179, [(.iadd, 1, []), (.putfield 406, 3, [12, 48, 0]), (.return_, 1, [])])]
abbrev M_X12_strike : Md := (277, 12, 10, none, P_X12_strike)
theorem ok_X12_strike : k_okM M_X12_strike := by unfold k_okM; decide +kernel
def P_X12_isFirstThere : CB := [(0, [(.aload_n 0, 1, []), (.getfield 61, 3, [12, 23, 1]), (.sipush 2400, 3, []), (.iload_n 1, 1, []), (.imul, 1, []), (.iload_n 2, 1, []), (.iadd, 1, []), (.iaload, 1, []), (.aload_n 0, 1, []), (.getfield 64, 3, [12, 24, 1]), (.sipush 2400, 3, []), (.iload_n 1, 1, []), (.imul, 1, []), (.iload_n 2, 1, []), (.iadd, 1, []), (.iaload, 1, []), (.invokestatic 3, 3, [1]), (.istore_n 3, 1, []), (.aload_n 0, 1, []), (.getfield 61, 3, [12, 23, 1]), (.sipush 2400, 3, []), (.iload_n 1, 1, []), (.imul, 1, []), (.iload_n 2, 1, []), (.iadd, 1, []), (.iaload, 1, []), (.aload_n 0, 1, []), (.getfield 64, 3, [12, 24, 1]), (.sipush 2400, 3, []), (.iload_n 1, 1, []), (.imul, 1, []), (.iload_n 2, 1, []), (.iadd, 1, []), (.iaload, 1, []), (.invokestatic 9, 3, [0]), (.istore 4, 2, []), (.iconst 0, 1, []), (.istore 5, 2, []), (.nop, 0, [1])]),
  (60, [(.iload 5, 2, []), (.iload_n 2, 1, []), (.if_icmp .ge 64, 3, [3]), (.aload_n 0, 1, []), (.getfield 61, 3, [12, 23, 1]), (.sipush 2400, 3, []), (.iload_n 1, 1, []), (.imul, 1, []), (.iload 5, 2, []), (.iadd, 1, []), (.iaload, 1, []), (.istore 6, 2, []), (.aload_n 0, 1, []), (.getfield 64, 3, [12, 24, 1]), (.sipush 2400, 3, []), (.iload_n 1, 1, []), (.imul, 1, []), (.iload 5, 2, []), (.iadd, 1, []), (.iaload, 1, []), (.istore 7, 2, []), (.iload 6, 2, []), (.iload 7, 2, []), (.invokestatic 3, 3, [1]), (.iload_n 3, 1, []), (.if_icmp .ne 17, 3, [2]), (.iload 6, 2, []), (.iload 7, 2, []), (.invokestatic 9, 3, [0]), (.iload 4, 2, []), (.if_icmp .ne 5, 3, [2]), (.iconst 0, 1, []), (.ireturn, 1, [])]),
  (121, [(.iinc 5 1, 3, []), (.goto (-64), 3, [1])]),
  (127, [(.aload_n 0, 1, []), (.iload_n 1, 1, []), (.iload_n 3, 1, []), (.iload 4, 2, []), (.invokevirtual 226, 3, [209, 4, 12]), (.ifCond .ne 7, 3, [4]), (.iconst 1, 1, []), (.goto 4, 3, [5])]),
  (142, [(.iconst 0, 1, []), (.nop, 0, [5])]),
  (143, [(.ireturn, 1, [])])]
abbrev M_X12_isFirstThere : Md := (278, 12, 8, (some .boolean), P_X12_isFirstThere)
theorem ok_X12_isFirstThere : k_okM M_X12_isFirstThere := by unfold k_okM; decide +kernel
def P_X12_findWander : CB := [(0, [(.aload_n 0, 1, []), (.iconst 0, 1, []), (.putfield 409, 3, [12, 47, 0]), (.aload_n 0, 1, []), (.iconst 0, 1, []), (.putfield 406, 3, [12, 48, 0]), (.iconst 0, 1, []), (.istore_n 3, 1, []), (.nop, 0, [1])]),
  (12, [(.iload_n 3, 1, []), (.aload_n 0, 1, []), (.getfield 202, 3, [12, 26, 0]), (.if_icmp .ge 125, 3, [7]), (.iconst 0, 1, []), (.istore 4, 2, []), (.nop, 0, [2])]),
  (23, [(.iload 4, 2, []), (.aload_n 0, 1, []), (.getfield 49, 3, [12, 19, 1]), (.iload_n 3, 1, []), (.iaload, 1, []), (.if_icmp .ge 42, 3, [3]), (.aload_n 0, 1, []), (.iload_n 3, 1, []), (.aload_n 0, 1, []), (.getfield 52, 3, [12, 20, 1]), (.sipush 1200, 3, []), (.iload_n 3, 1, []), (.imul, 1, []), (.iload 4, 2, []), (.iadd, 1, []), (.iaload, 1, []), (.aload_n 0, 1, []), (.getfield 55, 3, [12, 21, 1]), (.sipush 1200, 3, []), (.iload_n 3, 1, []), (.imul, 1, []), (.iload 4, 2, []), (.iadd, 1, []), (.iaload, 1, []), (.iload_n 1, 1, []), (.iload_n 2, 1, []), (.invokevirtual 412, 3, [277, 6, 12]), (.iinc 4 1, 3, []), (.goto (-47), 3, [2])]),
  (73, [(.iconst 0, 1, []), (.istore 4, 2, []), (.nop, 0, [4])]),
  (76, [(.iload 4, 2, []), (.aload_n 0, 1, []), (.getfield 58, 3, [12, 22, 1]), (.iload_n 3, 1, []), (.iaload, 1, []), (.if_icmp .ge 52, 3, [6]), (.aload_n 0, 1, []), (.iload_n 3, 1, []), (.iload 4, 2, []), (.invokevirtual 416, 3, [278, 3, 12]), (.ifCond .eq 36, 3, [5]), (.aload_n 0, 1, []), (.iload_n 3, 1, []), (.aload_n 0, 1, []), (.getfield 61, 3, [12, 23, 1]), (.sipush 2400, 3, []), (.iload_n 3, 1, []), (.imul, 1, []), (.iload 4, 2, []), (.iadd, 1, []), (.iaload, 1, []), (.aload_n 0, 1, []), (.getfield 64, 3, [12, 24, 1]), (.sipush 2400, 3, []), (.iload_n 3, 1, []), (.imul, 1, []), (.iload 4, 2, []), (.iadd, 1, []), (.iaload, 1, []), (.iload_n 1, 1, []), (.iload_n 2, 1, []), (.invokevirtual 412, 3, [277, 6, 12]), (.nop, 0, [5])]),
  (130, [(.iinc 4 1, 3, []), (.goto (-57), 3, [4])]),
  (136, [(.iinc 3 1, 3, []), (.goto (-127), 3, [1])]),
  (142, [(.return_, 1, [])])]
abbrev M_X12_findWander : Md := (279, 12, 5, none, P_X12_findWander)
theorem ok_X12_findWander : k_okM M_X12_findWander := by unfold k_okM; decide +kernel
def P_X12_wander : CB := [(0, [(.iload_n 1, 1, []), (.bipush (-3), 2, []), (.iconst 3, 1, []), (.invokestatic 175, 3, [179, 3]), (.ifCond .eq 22, 3, [1]), (.iload_n 2, 1, []), (.bipush (-3), 2, []), (.iconst 3, 1, []), (.invokestatic 175, 3, [179, 3]), (.ifCond .eq 12, 3, [1]), (.iload_n 3, 1, []), (.iconst 0, 1, []), (.iconst 1, 1, []), (.invokestatic 175, 3, [179, 3]), (.ifCond .ne 5, 3, [2]), (.nop, 0, [1])]),
  (29, [(.iconst (-1), 1, []), (.ireturn, 1, [])]),
  (31, [(.aload_n 0, 1, []), (.iload_n 1, 1, []), (.iload_n 2, 1, []), (.invokevirtual 419, 3, [279, 3, 12]), (.iload_n 3, 1, []), (.ifCond .ne 10, 3, [3]), (.aload_n 0, 1, []), (.getfield 409, 3, [12, 47, 0]), (.goto 7, 3, [4])]),
  (48, [(.aload_n 0, 1, []), (.getfield 406, 3, [12, 48, 0]), (.nop, 0, [4])]),
  (52, [(.ireturn, 1, [])])]
abbrev M_X12_wander : Md := (280, 12, 4, (some .int), P_X12_wander)
theorem ok_X12_wander : k_okM M_X12_wander := by unfold k_okM; decide +kernel
def P_X12_worst : CB := [(0, [(.iload_n 1, 1, []), (.iconst 0, 1, []), (.iconst 3, 1, []), (.invokestatic 175, 3, [179, 3]), (.ifCond .eq 12, 3, [1]), (.iload_n 2, 1, []), (.iconst 0, 1, []), (.iconst 2, 1, []), (.invokestatic 175, 3, [179, 3]), (.ifCond .ne 7, 3, [2]), (.nop, 0, [1])]),
  (18, [(.sipush (-1000), 3, []), (.ireturn, 1, [])]),
  (22, [(.iconst 0, 1, []), (.istore_n 3, 1, []), (.iconst 0, 1, []), (.istore 4, 2, []), (.iconst (-1), 1, []), (.istore 5, 2, []), (.iload_n 1, 1, []), (.ineg, 1, []), (.istore 6, 2, []), (.nop, 0, [3])]),
  (34, [(.iload 6, 2, []), (.iload_n 1, 1, []), (.if_icmp .gt 65, 3, [7]), (.iload_n 1, 1, []), (.ineg, 1, []), (.istore 7, 2, []), (.nop, 0, [4])]),
  (44, [(.iload 7, 2, []), (.iload_n 1, 1, []), (.if_icmp .gt 49, 3, [6]), (.aload_n 0, 1, []), (.iload 6, 2, []), (.iload 7, 2, []), (.invokevirtual 419, 3, [279, 3, 12]), (.aload_n 0, 1, []), (.getfield 409, 3, [12, 47, 0]), (.aload_n 0, 1, []), (.getfield 406, 3, [12, 48, 0]), (.iadd, 1, []), (.iload 5, 2, []), (.if_icmp .le 21, 3, [5]), (.aload_n 0, 1, []), (.getfield 409, 3, [12, 47, 0]), (.aload_n 0, 1, []), (.getfield 406, 3, [12, 48, 0]), (.iadd, 1, []), (.istore 5, 2, []), (.iload 6, 2, []), (.istore_n 3, 1, []), (.iload 7, 2, []), (.istore 4, 2, []), (.nop, 0, [5])]),
  (90, [(.iinc 7 1, 3, []), (.goto (-49), 3, [4])]),
  (96, [(.iinc 6 1, 3, []), (.goto (-65), 3, [3])]),
  (102, [(.iload_n 2, 1, []), (.ifCond .ne 7, 3, [8]), (.iload_n 3, 1, []), (.goto 15, 3, [10])]),
  (110, [(.iload_n 2, 1, []), (.iconst 1, 1, []), (.if_icmp .ne 8, 3, [9]), (.iload 4, 2, []), (.goto 5, 3, [10])]),
  (120, [(.iload 5, 2, []), (.nop, 0, [10])]),
  (122, [(.ireturn, 1, [])])]
abbrev M_X12_worst : Md := (281, 12, 8, (some .int), P_X12_worst)
theorem ok_X12_worst : k_okM M_X12_worst := by unfold k_okM; decide +kernel
def P_X12_layWith : CB := [(0, [(.aload_n 0, 1, []), (.iload_n 2, 1, []), (.iconst 1, 1, []), (.iload_n 1, 1, []), (.ishl, 1, []), (.ior, 1, []), (.invokevirtual 422, 3, [283, 2, 12]), (.aload_n 0, 1, []), (.iload_n 1, 1, []), (.invokevirtual 313, 3, [235, 2, 12]), (.iconst (-1), 1, []), (.if_icmp .ne 5, 3, [1]), (.iconst 0, 1, []), (.ireturn, 1, [])]),
  (20, [(.iconst 0, 1, []), (.istore_n 3, 1, []), (.nop, 0, [2])]),
  (22, [(.iload_n 3, 1, []), (.aload_n 0, 1, []), (.getfield 202, 3, [12, 26, 0]), (.if_icmp .ge 38, 3, [4]), (.iload_n 2, 1, []), (.iload_n 3, 1, []), (.ishr, 1, []), (.iconst 1, 1, []), (.iand, 1, []), (.iconst 1, 1, []), (.if_icmp .ne 23, 3, [3]), (.aload_n 0, 1, []), (.getfield 43, 3, [12, 17, 1]), (.iload_n 3, 1, []), (.iaload, 1, []), (.ifCond .le 14, 3, [3]), (.aload_n 0, 1, []), (.iload_n 3, 1, []), (.invokevirtual 313, 3, [235, 2, 12]), (.iconst (-1), 1, []), (.if_icmp .ne 5, 3, [3]), (.iconst 0, 1, []), (.ireturn, 1, [])]),
  (59, [(.iinc 3 1, 3, []), (.goto (-40), 3, [2])]),
  (65, [(.iconst 1, 1, []), (.ireturn, 1, [])])]
abbrev M_X12_layWith : Md := (282, 12, 4, (some .boolean), P_X12_layWith)
theorem ok_X12_layWith : k_okM M_X12_layWith := by unfold k_okM; decide +kernel
def P_X12_ripSome : CB := [(0, [(.iconst 0, 1, []), (.istore_n 2, 1, []), (.nop, 0, [1])]),
  (2, [(.iload_n 2, 1, []), (.aload_n 0, 1, []), (.getfield 202, 3, [12, 26, 0]), (.if_icmp .ge 30, 3, [3]), (.iload_n 1, 1, []), (.iload_n 2, 1, []), (.ishr, 1, []), (.iconst 1, 1, []), (.iand, 1, []), (.iconst 1, 1, []), (.if_icmp .ne 15, 3, [2]), (.aload_n 0, 1, []), (.getfield 58, 3, [12, 22, 1]), (.iload_n 2, 1, []), (.iconst 0, 1, []), (.iastore, 1, []), (.aload_n 0, 1, []), (.iload_n 2, 1, []), (.invokevirtual 266, 3, [220, 2, 12]), (.nop, 0, [2])]),
  (31, [(.iinc 2 1, 3, []), (.goto (-32), 3, [1])]),
  (37, [(.return_, 1, [])])]
abbrev M_X12_ripSome : Md := (283, 12, 3, none, P_X12_ripSome)
theorem ok_X12_ripSome : k_okM M_X12_ripSome := by unfold k_okM; decide +kernel
end
section
/-! code as data (written by wip/whole/gencode.py) -/
def P_X12_movePin : CB := [(0, [(.aload_n 0, 1, []), (.getfield 46, 3, [12, 18, 1]), (.iconst 4, 1, []), (.iload_n 1, 1, []), (.imul, 1, []), (.iload_n 2, 1, []), (.iadd, 1, []), (.iaload, 1, []), (.istore 4, 2, []), (.aload_n 0, 1, []), (.getfield 46, 3, [12, 18, 1]), (.iconst 4, 1, []), (.iload_n 1, 1, []), (.imul, 1, []), (.iload_n 2, 1, []), (.iadd, 1, []), (.iload_n 3, 1, []), (.iastore, 1, []), (.iconst 0, 1, []), (.istore 5, 2, []), (.iconst 0, 1, []), (.istore 6, 2, []), (.nop, 0, [1])]),
  (29, [(.iload 6, 2, []), (.aload_n 0, 1, []), (.getfield 49, 3, [12, 19, 1]), (.iload_n 1, 1, []), (.iaload, 1, []), (.if_icmp .ge 57, 3, [5]), (.iload 5, 2, []), (.ifCond .ne 39, 3, [2]), (.aload_n 0, 1, []), (.getfield 52, 3, [12, 20, 1]), (.sipush 1200, 3, []), (.iload_n 1, 1, []), (.imul, 1, []), (.iload 6, 2, []), (.iadd, 1, []), (.iaload, 1, []), (.iload 4, 2, []), (.if_icmp .eq 21, 3, [2]), (.aload_n 0, 1, []), (.getfield 55, 3, [12, 21, 1]), (.sipush 1200, 3, []), (.iload_n 1, 1, []), (.imul, 1, []), (.iload 6, 2, []), (.iadd, 1, []), (.iaload, 1, []), (.iload 4, 2, []), (.if_icmp .ne 7, 3, [3]), (.nop, 0, [2])]),
  (81, [(.iconst 1, 1, []), (.goto 4, 3, [4])]),
  (85, [(.iconst 0, 1, []), (.nop, 0, [4])]),
  (86, [(.istore 5, 2, []), (.iinc 6 1, 3, []), (.goto (-62), 3, [1])]),
  (94, [(.aload_n 0, 1, []), (.getfield 71, 3, [12, 27, 1]), (.sipush 324, 3, []), (.iload_n 1, 1, []), (.imul, 1, []), (.iload 4, 2, []), (.iadd, 1, []), (.dup2, 1, []), (.iaload, 1, []), (.iload 5, 2, []), (.ifCond .eq 8, 3, [6]), (.bipush 7, 2, []), (.goto 5, 3, [7])]),
  (118, [(.bipush 6, 2, []), (.nop, 0, [7])]),
  (120, [(.iand, 1, []), (.iastore, 1, []), (.aload_n 0, 1, []), (.getfield 71, 3, [12, 27, 1]), (.sipush 324, 3, []), (.iload_n 1, 1, []), (.imul, 1, []), (.iload_n 3, 1, []), (.iadd, 1, []), (.dup2, 1, []), (.iaload, 1, []), (.iconst 1, 1, []), (.ior, 1, []), (.iastore, 1, []), (.return_, 1, [])])]
abbrev M_X12_movePin : Md := (284, 12, 7, none, P_X12_movePin)
theorem ok_X12_movePin : k_okM M_X12_movePin := by unfold k_okM; decide +kernel
def P_X12_late : CB := [(0, [(.aload_n 0, 1, []), (.iload_n 1, 1, []), (.invokevirtual 220, 3, [198, 2, 12]), (.ifCond .eq 31, 3, [1]), (.iload_n 2, 1, []), (.iconst 0, 1, []), (.aload_n 0, 1, []), (.getfield 43, 3, [12, 17, 1]), (.iload_n 1, 1, []), (.iaload, 1, []), (.iconst 1, 1, []), (.isub, 1, []), (.invokestatic 175, 3, [179, 3]), (.ifCond .eq 15, 3, [1]), (.aload_n 0, 1, []), (.iload_n 3, 1, []), (.iload 4, 2, []), (.iload 5, 2, []), (.invokevirtual 214, 3, [199, 4, 12]), (.ifCond .ne 5, 3, [2]), (.nop, 0, [1])]),
  (36, [(.iconst (-1), 1, []), (.ireturn, 1, [])]),
  (38, [(.aload_n 0, 1, []), (.getfield 46, 3, [12, 18, 1]), (.iconst 4, 1, []), (.iload_n 1, 1, []), (.imul, 1, []), (.iload_n 2, 1, []), (.iadd, 1, []), (.iaload, 1, []), (.istore 6, 2, []), (.aload_n 0, 1, []), (.iload_n 3, 1, []), (.iload 4, 2, []), (.iload 5, 2, []), (.invokestatic 217, 3, [200, 3]), (.invokevirtual 223, 3, [206, 2, 12]), (.istore 7, 2, []), (.iload 7, 2, []), (.iconst (-1), 1, []), (.if_icmp .eq 5, 3, [3]), (.iconst (-1), 1, []), (.ireturn, 1, [])]),
  (72, [(.aload_n 0, 1, []), (.iconst 1, 1, []), (.invokevirtual 309, 3, [236, 2, 12]), (.aload_n 0, 1, []), (.invokevirtual 334, 3, [224, 1, 12]), (.aload_n 0, 1, []), (.iload_n 1, 1, []), (.iload_n 2, 1, []), (.iload_n 3, 1, []), (.iload 4, 2, []), (.iload 5, 2, []), (.invokestatic 217, 3, [200, 3]), (.invokevirtual 425, 3, [284, 4, 12]), (.iconst (-1), 1, []), (.istore 8, 2, []), (.iconst 0, 1, []), (.istore 9, 2, []), (.nop, 0, [4])]),
  (101, [(.iload 9, 2, []), (.iconst 1, 1, []), (.aload_n 0, 1, []), (.getfield 202, 3, [12, 26, 0]), (.ishl, 1, []), (.if_icmp .ge 60, 3, [8]), (.iload 9, 2, []), (.iload_n 1, 1, []), (.ishr, 1, []), (.iconst 1, 1, []), (.iand, 1, []), (.ifCond .ne 45, 3, [7]), (.iload 9, 2, []), (.invokestatic 358, 3, [316, 1]), (.iconst 3, 1, []), (.if_icmp .gt 36, 3, [7]), (.iload 9, 2, []), (.iload 8, 2, []), (.invokestatic 363, 3, [255, 2]), (.ifCond .eq 26, 3, [7]), (.aload_n 0, 1, []), (.iload_n 1, 1, []), (.iload 9, 2, []), (.invokevirtual 428, 3, [282, 3, 12]), (.ifCond .eq 8, 3, [5]), (.iload 9, 2, []), (.goto 5, 3, [6])]),
  (155, [(.iload 8, 2, []), (.nop, 0, [6])]),
  (157, [(.istore 8, 2, []), (.aload_n 0, 1, []), (.invokevirtual 343, 3, [226, 1, 12]), (.nop, 0, [7])]),
  (163, [(.iinc 9 1, 3, []), (.goto (-65), 3, [4])]),
  (169, [(.iload 8, 2, []), (.iconst (-1), 1, []), (.if_icmp .ne 13, 3, [9]), (.aload_n 0, 1, []), (.iload_n 1, 1, []), (.iload_n 2, 1, []), (.iload 6, 2, []), (.invokevirtual 425, 3, [284, 4, 12]), (.iconst (-1), 1, []), (.ireturn, 1, [])]),
  (185, [(.aload_n 0, 1, []), (.iload_n 1, 1, []), (.iload 8, 2, []), (.invokevirtual 428, 3, [282, 3, 12]), (.pop, 1, []), (.iload 8, 2, []), (.ireturn, 1, [])])]
abbrev M_X12_late : Md := (285, 12, 10, (some .int), P_X12_late)
theorem ok_X12_late : k_okM M_X12_late := by unfold k_okM; decide +kernel
def P_X12_find : CB := [(0, [(.iload_n 1, 1, []), (.istore_n 2, 1, []), (.nop, 0, [1])]),
  (2, [(.aload_n 0, 1, []), (.getfield 116, 3, [12, 49, 1]), (.iload_n 2, 1, []), (.iaload, 1, []), (.iload_n 2, 1, []), (.if_icmp .eq 13, 3, [2]), (.aload_n 0, 1, []), (.getfield 116, 3, [12, 49, 1]), (.iload_n 2, 1, []), (.iaload, 1, []), (.istore_n 2, 1, []), (.goto (-17), 3, [1])]),
  (22, [(.iload_n 2, 1, []), (.ireturn, 1, [])])]
abbrev M_X12_find : Md := (286, 12, 3, (some .int), P_X12_find)
theorem ok_X12_find : k_okM M_X12_find := by unfold k_okM; decide +kernel
def P_X12_unite : CB := [(0, [(.aload_n 0, 1, []), (.getfield 116, 3, [12, 49, 1]), (.aload_n 0, 1, []), (.iload_n 1, 1, []), (.invokevirtual 431, 3, [286, 2, 12]), (.aload_n 0, 1, []), (.iload_n 2, 1, []), (.invokevirtual 431, 3, [286, 2, 12]), (.iastore, 1, []), (.return_, 1, [])])]
abbrev M_X12_unite : Md := (287, 12, 3, none, P_X12_unite)
theorem ok_X12_unite : k_okM M_X12_unite := by unfold k_okM; decide +kernel
def P_X12_uniteAll : CB := [(0, [(.iconst 0, 1, []), (.istore_n 1, 1, []), (.nop, 0, [1])]),
  (2, [(.iload_n 1, 1, []), (.sipush 2592, 3, []), (.if_icmp .ge 16, 3, [2]), (.aload_n 0, 1, []), (.getfield 116, 3, [12, 49, 1]), (.iload_n 1, 1, []), (.iload_n 1, 1, []), (.iastore, 1, []), (.iinc 1 1, 3, []), (.goto (-17), 3, [1])]),
  (22, [(.iconst 0, 1, []), (.istore_n 1, 1, []), (.nop, 0, [3])]),
  (24, [(.iload_n 1, 1, []), (.aload_n 0, 1, []), (.getfield 202, 3, [12, 26, 0]), (.if_icmp .ge 189, 3, [13]), (.iconst 0, 1, []), (.istore_n 2, 1, []), (.nop, 0, [4])]),
  (34, [(.iload_n 2, 1, []), (.aload_n 0, 1, []), (.getfield 49, 3, [12, 19, 1]), (.iload_n 1, 1, []), (.iaload, 1, []), (.if_icmp .ge 49, 3, [5]), (.aload_n 0, 1, []), (.sipush 324, 3, []), (.iload_n 1, 1, []), (.imul, 1, []), (.aload_n 0, 1, []), (.getfield 52, 3, [12, 20, 1]), (.sipush 1200, 3, []), (.iload_n 1, 1, []), (.imul, 1, []), (.iload_n 2, 1, []), (.iadd, 1, []), (.iaload, 1, []), (.iadd, 1, []), (.sipush 324, 3, []), (.iload_n 1, 1, []), (.imul, 1, []), (.aload_n 0, 1, []), (.getfield 55, 3, [12, 21, 1]), (.sipush 1200, 3, []), (.iload_n 1, 1, []), (.imul, 1, []), (.iload_n 2, 1, []), (.iadd, 1, []), (.iaload, 1, []), (.iadd, 1, []), (.invokevirtual 434, 3, [287, 3, 12]), (.iinc 2 1, 3, []), (.goto (-53), 3, [4])]),
  (90, [(.iconst 0, 1, []), (.istore_n 2, 1, []), (.nop, 0, [6])]),
  (92, [(.iload_n 2, 1, []), (.aload_n 0, 1, []), (.getfield 58, 3, [12, 22, 1]), (.iload_n 1, 1, []), (.iaload, 1, []), (.if_icmp .ge 49, 3, [7]), (.aload_n 0, 1, []), (.sipush 324, 3, []), (.iload_n 1, 1, []), (.imul, 1, []), (.aload_n 0, 1, []), (.getfield 61, 3, [12, 23, 1]), (.sipush 2400, 3, []), (.iload_n 1, 1, []), (.imul, 1, []), (.iload_n 2, 1, []), (.iadd, 1, []), (.iaload, 1, []), (.iadd, 1, []), (.sipush 324, 3, []), (.iload_n 1, 1, []), (.imul, 1, []), (.aload_n 0, 1, []), (.getfield 64, 3, [12, 24, 1]), (.sipush 2400, 3, []), (.iload_n 1, 1, []), (.imul, 1, []), (.iload_n 2, 1, []), (.iadd, 1, []), (.iaload, 1, []), (.iadd, 1, []), (.invokevirtual 434, 3, [287, 3, 12]), (.iinc 2 1, 3, []), (.goto (-53), 3, [6])]),
  (148, [(.iconst 0, 1, []), (.istore_n 2, 1, []), (.nop, 0, [8])]),
  (150, [(.iload_n 2, 1, []), (.iload_n 1, 1, []), (.if_icmp .ge 60, 3, [12]), (.iconst 0, 1, []), (.istore_n 3, 1, []), (.nop, 0, [9])]),
  (157, [(.iload_n 3, 1, []), (.sipush 324, 3, []), (.if_icmp .ge 45, 3, [11]), (.aload_n 0, 1, []), (.iload_n 1, 1, []), (.iload_n 3, 1, []), (.invokevirtual 236, 3, [213, 3, 12]), (.ifCond .eq 30, 3, [10]), (.aload_n 0, 1, []), (.iload_n 2, 1, []), (.iload_n 3, 1, []), (.invokevirtual 236, 3, [213, 3, 12]), (.ifCond .eq 21, 3, [10]), (.aload_n 0, 1, []), (.sipush 324, 3, []), (.iload_n 1, 1, []), (.imul, 1, []), (.iload_n 3, 1, []), (.iadd, 1, []), (.sipush 324, 3, []), (.iload_n 2, 1, []), (.imul, 1, []), (.iload_n 3, 1, []), (.iadd, 1, []), (.invokevirtual 434, 3, [287, 3, 12]), (.nop, 0, [10])]),
  (200, [(.iinc 3 1, 3, []), (.goto (-46), 3, [9])]),
  (206, [(.iinc 2 1, 3, []), (.goto (-59), 3, [8])]),
  (212, [(.iinc 1 1, 3, []), (.goto (-191), 3, [3])]),
  (218, [(.return_, 1, [])])]
abbrev M_X12_uniteAll : Md := (288, 12, 4, none, P_X12_uniteAll)
theorem ok_X12_uniteAll : k_okM M_X12_uniteAll := by unfold k_okM; decide +kernel
def P_X12_areShort : CB := [(0, [(.iconst 0, 1, []), (.istore_n 3, 1, []), (.nop, 0, [1])]),
  (2, [(.iload_n 3, 1, []), (.sipush 324, 3, []), (.if_icmp .ge 73, 3, [5]), (.iconst 0, 1, []), (.istore 4, 2, []), (.nop, 0, [2])]),
  (12, [(.iload 4, 2, []), (.sipush 324, 3, []), (.if_icmp .ge 56, 3, [4]), (.aload_n 0, 1, []), (.iload_n 1, 1, []), (.iload_n 3, 1, []), (.invokevirtual 236, 3, [213, 3, 12]), (.ifCond .eq 47, 3, [4]), (.aload_n 0, 1, []), (.iload_n 2, 1, []), (.iload 4, 2, []), (.invokevirtual 236, 3, [213, 3, 12]), (.ifCond .eq 31, 3, [3]), (.aload_n 0, 1, []), (.sipush 324, 3, []), (.iload_n 1, 1, []), (.imul, 1, []), (.iload_n 3, 1, []), (.iadd, 1, []), (.invokevirtual 431, 3, [286, 2, 12]), (.aload_n 0, 1, []), (.sipush 324, 3, []), (.iload_n 2, 1, []), (.imul, 1, []), (.iload 4, 2, []), (.iadd, 1, []), (.invokevirtual 431, 3, [286, 2, 12]), (.if_icmp .ne 5, 3, [3]), (.iconst 1, 1, []), (.ireturn, 1, [])]),
  (67, [(.iinc 4 1, 3, []), (.goto (-58), 3, [2])]),
  (73, [(.iinc 3 1, 3, []), (.goto (-74), 3, [1])]),
  (79, [(.iconst 0, 1, []), (.ireturn, 1, [])])]
abbrev M_X12_areShort : Md := (289, 12, 5, (some .boolean), P_X12_areShort)
theorem ok_X12_areShort : k_okM M_X12_areShort := by unfold k_okM; decide +kernel
def P_X12_netlist : CB := [(0, [(.iload_n 1, 1, []), (.iconst 0, 1, []), (.iconst 1, 1, []), (.invokestatic 175, 3, [179, 3]), (.ifCond .ne 5, 3, [1]), (.iconst (-1), 1, []), (.ireturn, 1, [])]),
  (11, [(.aload_n 0, 1, []), (.invokevirtual 437, 3, [288, 1, 12]), (.iconst 0, 1, []), (.istore_n 2, 1, []), (.iconst 0, 1, []), (.istore_n 3, 1, []), (.nop, 0, [2])]),
  (19, [(.iload_n 3, 1, []), (.aload_n 0, 1, []), (.getfield 202, 3, [12, 26, 0]), (.if_icmp .ge 160, 3, [15]), (.iconst 0, 1, []), (.istore 4, 2, []), (.nop, 0, [3])]),
  (30, [(.iload 4, 2, []), (.iload_n 3, 1, []), (.if_icmp .ge 31, 3, [6]), (.iload_n 1, 1, []), (.ifCond .ne 27, 3, [6]), (.iload_n 2, 1, []), (.aload_n 0, 1, []), (.iload_n 3, 1, []), (.iload 4, 2, []), (.invokevirtual 440, 3, [289, 3, 12]), (.ifCond .eq 7, 3, [4]), (.iconst 1, 1, []), (.goto 4, 3, [5])]),
  (55, [(.iconst 0, 1, []), (.nop, 0, [5])]),
  (56, [(.iadd, 1, []), (.istore_n 2, 1, []), (.iinc 4 1, 3, []), (.goto (-31), 3, [3])]),
  (64, [(.iconst 1, 1, []), (.istore 4, 2, []), (.nop, 0, [7])]),
  (67, [(.iload 4, 2, []), (.aload_n 0, 1, []), (.getfield 43, 3, [12, 17, 1]), (.iload_n 3, 1, []), (.iaload, 1, []), (.if_icmp .ge 103, 3, [14]), (.iload_n 1, 1, []), (.iconst 1, 1, []), (.if_icmp .ne 98, 3, [14]), (.iconst 1, 1, []), (.istore 5, 2, []), (.iconst 0, 1, []), (.istore 6, 2, []), (.nop, 0, [8])]),
  (89, [(.iload 6, 2, []), (.iload 4, 2, []), (.if_icmp .ge 66, 3, [11]), (.iload 5, 2, []), (.ifCond .eq 52, 3, [9]), (.aload_n 0, 1, []), (.sipush 324, 3, []), (.iload_n 3, 1, []), (.imul, 1, []), (.aload_n 0, 1, []), (.getfield 46, 3, [12, 18, 1]), (.iconst 4, 1, []), (.iload_n 3, 1, []), (.imul, 1, []), (.iload 4, 2, []), (.iadd, 1, []), (.iaload, 1, []), (.iadd, 1, []), (.invokevirtual 431, 3, [286, 2, 12]), (.aload_n 0, 1, []), (.sipush 324, 3, []), (.iload_n 3, 1, []), (.imul, 1, []), (.aload_n 0, 1, []), (.getfield 46, 3, [12, 18, 1]), (.iconst 4, 1, []), (.iload_n 3, 1, []), (.imul, 1, []), (.iload 6, 2, []), (.iadd, 1, []), (.iaload, 1, []), (.iadd, 1, []), (.invokevirtual 431, 3, [286, 2, 12]), (.if_icmp .eq 7, 3, [9]), (.iconst 1, 1, []), (.goto 4, 3, [10])]),
  (150, [(.iconst 0, 1, []), (.nop, 0, [10])]),
  (151, [(.istore 5, 2, []), (.iinc 6 1, 3, []), (.goto (-67), 3, [8])]),
  (159, [(.iload_n 2, 1, []), (.iload 5, 2, []), (.ifCond .eq 7, 3, [12]), (.iconst 1, 1, []), (.goto 4, 3, [13])]),
  (169, [(.iconst 0, 1, []), (.nop, 0, [13])]),
  (170, [(.iadd, 1, []), (.istore_n 2, 1, []), (.iinc 4 1, 3, []), (.goto (-108), 3, [7])]),
  (178, [(.iinc 3 1, 3, []), (.goto (-162), 3, [2])]),
  (184, [(.iload_n 2, 1, []), (.ireturn, 1, [])])]
abbrev M_X12_netlist : Md := (290, 12, 7, (some .int), P_X12_netlist)
theorem ok_X12_netlist : k_okM M_X12_netlist := by unfold k_okM; decide +kernel
def P_X12_isAlone : CB := [(0, [(.iconst 1, 1, []), (.istore_n 3, 1, []), (.iconst 0, 1, []), (.istore 4, 2, []), (.nop, 0, [1])]),
  (5, [(.iload 4, 2, []), (.aload_n 0, 1, []), (.getfield 202, 3, [12, 26, 0]), (.if_icmp .ge 86, 3, [9]), (.iload 4, 2, []), (.iload_n 1, 1, []), (.if_icmp .eq 74, 3, [8]), (.iload_n 3, 1, []), (.ifCond .eq 17, 3, [2]), (.aload_n 0, 1, []), (.iload 4, 2, []), (.iload_n 2, 1, []), (.invokevirtual 236, 3, [213, 3, 12]), (.ifCond .ne 7, 3, [2]), (.iconst 1, 1, []), (.goto 4, 3, [3])]),
  (38, [(.iconst 0, 1, []), (.nop, 0, [3])]),
  (39, [(.istore_n 3, 1, []), (.iconst 0, 1, []), (.istore 5, 2, []), (.nop, 0, [4])]),
  (43, [(.iload 5, 2, []), (.iconst 4, 1, []), (.if_icmp .ge 45, 3, [8]), (.aload_n 0, 1, []), (.iload_n 2, 1, []), (.iload 5, 2, []), (.invokevirtual 229, 3, [204, 3, 12]), (.istore 6, 2, []), (.iload_n 3, 1, []), (.ifCond .eq 24, 3, [6]), (.iload 6, 2, []), (.iconst (-1), 1, []), (.if_icmp .eq 14, 3, [5]), (.aload_n 0, 1, []), (.iload 4, 2, []), (.iload 6, 2, []), (.invokevirtual 236, 3, [213, 3, 12]), (.ifCond .ne 7, 3, [6]), (.nop, 0, [5])]),
  (79, [(.iconst 1, 1, []), (.goto 4, 3, [7])]),
  (83, [(.iconst 0, 1, []), (.nop, 0, [7])]),
  (84, [(.istore_n 3, 1, []), (.iinc 5 1, 3, []), (.goto (-45), 3, [4])]),
  (91, [(.iinc 4 1, 3, []), (.goto (-89), 3, [1])]),
  (97, [(.iload_n 3, 1, []), (.ireturn, 1, [])])]
abbrev M_X12_isAlone : Md := (291, 12, 7, (some .boolean), P_X12_isAlone)
theorem ok_X12_isAlone : k_okM M_X12_isAlone := by unfold k_okM; decide +kernel
def P_X12_test : CB := [(0, [(.iload_n 1, 1, []), (.iconst 0, 1, []), (.aload_n 0, 1, []), (.getfield 142, 3, [12, 3, 0]), (.iconst 1, 1, []), (.isub, 1, []), (.invokestatic 175, 3, [179, 3]), (.ifCond .ne 5, 3, [1]), (.iconst (-1), 1, []), (.ireturn, 1, [])]),
  (16, [(.iconst 0, 1, []), (.istore_n 2, 1, []), (.iconst 0, 1, []), (.istore_n 3, 1, []), (.nop, 0, [2])]),
  (20, [(.iload_n 3, 1, []), (.aload_n 0, 1, []), (.getfield 202, 3, [12, 26, 0]), (.if_icmp .ge 74, 3, [7]), (.iconst 0, 1, []), (.istore 4, 2, []), (.nop, 0, [3])]),
  (31, [(.iload 4, 2, []), (.bipush 81, 2, []), (.if_icmp .ge 58, 3, [6]), (.bipush 81, 2, []), (.iload_n 1, 1, []), (.imul, 1, []), (.iload 4, 2, []), (.iadd, 1, []), (.istore 5, 2, []), (.iload_n 2, 1, []), (.aload_n 0, 1, []), (.iload_n 3, 1, []), (.iload 5, 2, []), (.invokevirtual 236, 3, [213, 3, 12]), (.ifCond .eq 29, 3, [4]), (.aload_n 0, 1, []), (.getfield 67, 3, [12, 25, 1]), (.iload 5, 2, []), (.baload, 1, []), (.ifCond .ne 19, 3, [4]), (.aload_n 0, 1, []), (.iload_n 3, 1, []), (.iload 5, 2, []), (.invokevirtual 443, 3, [291, 3, 12]), (.ifCond .eq 9, 3, [4]), (.iconst 1, 1, []), (.iload_n 3, 1, []), (.ishl, 1, []), (.goto 4, 3, [5])]),
  (84, [(.iconst 0, 1, []), (.nop, 0, [5])]),
  (85, [(.ior, 1, []), (.istore_n 2, 1, []), (.iinc 4 1, 3, []), (.goto (-59), 3, [3])]),
  (93, [(.iinc 3 1, 3, []), (.goto (-76), 3, [2])]),
  (99, [(.iload_n 2, 1, []), (.ireturn, 1, [])])]
abbrev M_X12_test : Md := (292, 12, 6, (some .int), P_X12_test)
theorem ok_X12_test : k_okM M_X12_test := by unfold k_okM; decide +kernel
def P_X12_slow : CB := [(0, [(.iload_n 1, 1, []), (.iconst (-1), 1, []), (.if_icmp .eq 17, 3, [1]), (.iload_n 1, 1, []), (.iconst 0, 1, []), (.aload_n 0, 1, []), (.getfield 142, 3, [12, 3, 0]), (.iconst 1, 1, []), (.isub, 1, []), (.invokestatic 175, 3, [179, 3]), (.ifCond .eq 13, 3, [2]), (.nop, 0, [1])]),
  (19, [(.iload_n 2, 1, []), (.iconst 0, 1, []), (.bipush 99, 2, []), (.invokestatic 175, 3, [179, 3]), (.ifCond .ne 5, 3, [3]), (.nop, 0, [2])]),
  (29, [(.iconst 0, 1, []), (.ireturn, 1, [])]),
  (31, [(.aload_n 0, 1, []), (.getfield 119, 3, [12, 50, 1]), (.iload_n 1, 1, []), (.iconst (-1), 1, []), (.if_icmp .ne 7, 3, [4]), (.iconst 4, 1, []), (.goto 4, 3, [5])]),
  (44, [(.iload_n 1, 1, []), (.nop, 0, [5])]),
  (45, [(.iload_n 2, 1, []), (.iastore, 1, []), (.iconst 1, 1, []), (.ireturn, 1, [])])]
abbrev M_X12_slow : Md := (293, 12, 3, (some .boolean), P_X12_slow)
theorem ok_X12_slow : k_okM M_X12_slow := by unfold k_okM; decide +kernel
def P_X12_delayed : CB := [(0, [(.aload_n 0, 1, []), (.getfield 119, 3, [12, 50, 1]), (.iload_n 1, 1, []), (.invokestatic 211, 3, [203, 1]), (.iload_n 2, 1, []), (.invokestatic 211, 3, [203, 1]), (.if_icmp .ne 10, 3, [1]), (.iload_n 1, 1, []), (.invokestatic 211, 3, [203, 1]), (.goto 4, 3, [2])]),
  (22, [(.iconst 4, 1, []), (.nop, 0, [2])]),
  (23, [(.iaload, 1, []), (.ireturn, 1, [])])]
abbrev M_X12_delayed : Md := (294, 12, 3, (some .int), P_X12_delayed)
theorem ok_X12_delayed : k_okM M_X12_delayed := by unfold k_okM; decide +kernel
end
section
/-! code as data (written by wip/whole/gencode.py) -/
def P_X12_delayOf : CB := [(0, [(.iconst 0, 1, []), (.istore_n 2, 1, []), (.iconst 0, 1, []), (.istore_n 3, 1, []), (.nop, 0, [1])]),
  (4, [(.iload_n 3, 1, []), (.aload_n 0, 1, []), (.getfield 49, 3, [12, 19, 1]), (.iload_n 1, 1, []), (.iaload, 1, []), (.if_icmp .ge 40, 3, [2]), (.iload_n 2, 1, []), (.aload_n 0, 1, []), (.aload_n 0, 1, []), (.getfield 52, 3, [12, 20, 1]), (.sipush 1200, 3, []), (.iload_n 1, 1, []), (.imul, 1, []), (.iload_n 3, 1, []), (.iadd, 1, []), (.iaload, 1, []), (.aload_n 0, 1, []), (.getfield 55, 3, [12, 21, 1]), (.sipush 1200, 3, []), (.iload_n 1, 1, []), (.imul, 1, []), (.iload_n 3, 1, []), (.iadd, 1, []), (.iaload, 1, []), (.invokevirtual 446, 3, [294, 3, 12]), (.iadd, 1, []), (.istore_n 2, 1, []), (.iinc 3 1, 3, []), (.goto (-44), 3, [1])]),
  (51, [(.iconst 0, 1, []), (.istore_n 3, 1, []), (.nop, 0, [3])]),
  (53, [(.iload_n 3, 1, []), (.aload_n 0, 1, []), (.getfield 58, 3, [12, 22, 1]), (.iload_n 1, 1, []), (.iaload, 1, []), (.if_icmp .ge 53, 3, [6]), (.iload_n 2, 1, []), (.aload_n 0, 1, []), (.iload_n 1, 1, []), (.iload_n 3, 1, []), (.invokevirtual 416, 3, [278, 3, 12]), (.ifCond .eq 34, 3, [4]), (.aload_n 0, 1, []), (.aload_n 0, 1, []), (.getfield 61, 3, [12, 23, 1]), (.sipush 2400, 3, []), (.iload_n 1, 1, []), (.imul, 1, []), (.iload_n 3, 1, []), (.iadd, 1, []), (.iaload, 1, []), (.aload_n 0, 1, []), (.getfield 64, 3, [12, 24, 1]), (.sipush 2400, 3, []), (.iload_n 1, 1, []), (.imul, 1, []), (.iload_n 3, 1, []), (.iadd, 1, []), (.iaload, 1, []), (.invokevirtual 446, 3, [294, 3, 12]), (.goto 4, 3, [5])]),
  (104, [(.iconst 0, 1, []), (.nop, 0, [5])]),
  (105, [(.iadd, 1, []), (.istore_n 2, 1, []), (.iinc 3 1, 3, []), (.goto (-57), 3, [3])]),
  (113, [(.iload_n 2, 1, []), (.ireturn, 1, [])])]
abbrev M_X12_delayOf : Md := (295, 12, 4, (some .int), P_X12_delayOf)
theorem ok_X12_delayOf : k_okM M_X12_delayOf := by unfold k_okM; decide +kernel
def P_X12_delay : CB := [(0, [(.aload_n 0, 1, []), (.iload_n 1, 1, []), (.invokevirtual 220, 3, [198, 2, 12]), (.ifCond .eq 11, 3, [1]), (.aload_n 0, 1, []), (.iload_n 1, 1, []), (.invokevirtual 449, 3, [295, 2, 12]), (.goto 4, 3, [2])]),
  (16, [(.iconst (-1), 1, []), (.nop, 0, [2])]),
  (17, [(.ireturn, 1, [])])]
abbrev M_X12_delay : Md := (296, 12, 2, (some .int), P_X12_delay)
theorem ok_X12_delay : k_okM M_X12_delay := by unfold k_okM; decide +kernel
def P_X12_isBy : CB := [(0, [(.iconst 0, 1, []), (.istore_n 3, 1, []), (.nop, 0, [1])]),
  (2, [(.iload_n 3, 1, []), (.iconst 4, 1, []), (.if_icmp .ge 35, 3, [3]), (.aload_n 0, 1, []), (.iload_n 1, 1, []), (.iload_n 3, 1, []), (.invokevirtual 229, 3, [204, 3, 12]), (.istore 4, 2, []), (.iload 4, 2, []), (.iconst (-1), 1, []), (.if_icmp .eq 15, 3, [2]), (.aload_n 0, 1, []), (.iload_n 2, 1, []), (.iload 4, 2, []), (.invokevirtual 236, 3, [213, 3, 12]), (.ifCond .eq 5, 3, [2]), (.iconst 1, 1, []), (.ireturn, 1, [])]),
  (33, [(.iinc 3 1, 3, []), (.goto (-34), 3, [1])]),
  (39, [(.iconst 0, 1, []), (.ireturn, 1, [])])]
abbrev M_X12_isBy : Md := (297, 12, 5, (some .boolean), P_X12_isBy)
theorem ok_X12_isBy : k_okM M_X12_isBy := by unfold k_okM; decide +kernel
def P_X12_pair : CB := [(0, [(.aload_n 0, 1, []), (.iload_n 1, 1, []), (.invokevirtual 220, 3, [198, 2, 12]), (.ifCond .eq 38, 3, [1]), (.aload_n 0, 1, []), (.iload_n 2, 1, []), (.invokevirtual 220, 3, [198, 2, 12]), (.ifCond .eq 30, 3, [1]), (.iload_n 1, 1, []), (.iload_n 2, 1, []), (.if_icmp .eq 25, 3, [1]), (.iload_n 3, 1, []), (.iconst 0, 1, []), (.iconst 3, 1, []), (.invokestatic 175, 3, [179, 3]), (.ifCond .eq 16, 3, [1]), (.iload_n 3, 1, []), (.iconst 2, 1, []), (.if_icmp .ne 15, 3, [2]), (.aload_n 0, 1, []), (.iload_n 1, 1, []), (.invokevirtual 390, 3, [263, 2, 12]), (.ifCond .ne 7, 3, [2]), (.nop, 0, [1])]),
  (43, [(.sipush (-1000), 3, []), (.ireturn, 1, [])]),
  (47, [(.iload_n 3, 1, []), (.ifCond .ne 12, 3, [3]), (.aload_n 0, 1, []), (.iload_n 1, 1, []), (.iload_n 2, 1, []), (.invokevirtual 452, 3, [299, 3, 12]), (.goto 42, 3, [6])]),
  (60, [(.iload_n 3, 1, []), (.iconst 1, 1, []), (.if_icmp .ne 17, 3, [4]), (.aload_n 0, 1, []), (.iload_n 1, 1, []), (.invokevirtual 449, 3, [295, 2, 12]), (.aload_n 0, 1, []), (.iload_n 2, 1, []), (.invokevirtual 449, 3, [295, 2, 12]), (.isub, 1, []), (.goto 23, 3, [6])]),
  (79, [(.iload_n 3, 1, []), (.iconst 2, 1, []), (.if_icmp .ne 12, 3, [5]), (.aload_n 0, 1, []), (.iload_n 1, 1, []), (.iload_n 2, 1, []), (.invokevirtual 455, 3, [300, 3, 12]), (.goto 9, 3, [6])]),
  (93, [(.aload_n 0, 1, []), (.iload_n 1, 1, []), (.iload_n 2, 1, []), (.invokevirtual 458, 3, [301, 3, 12]), (.nop, 0, [6])]),
  (99, [(.ireturn, 1, [])])]
abbrev M_X12_pair : Md := (298, 12, 4, (some .int), P_X12_pair)
theorem ok_X12_pair : k_okM M_X12_pair := by unfold k_okM; decide +kernel
def P_X12_byAll : CB := [(0, [(.iconst 0, 1, []), (.istore_n 3, 1, []), (.iconst 0, 1, []), (.istore 4, 2, []), (.nop, 0, [1])]),
  (5, [(.iload 4, 2, []), (.sipush 324, 3, []), (.if_icmp .ge 37, 3, [4]), (.iload_n 3, 1, []), (.aload_n 0, 1, []), (.iload_n 1, 1, []), (.iload 4, 2, []), (.invokevirtual 236, 3, [213, 3, 12]), (.ifCond .eq 17, 3, [2]), (.aload_n 0, 1, []), (.iload 4, 2, []), (.iload_n 2, 1, []), (.invokevirtual 461, 3, [297, 3, 12]), (.ifCond .eq 7, 3, [2]), (.iconst 1, 1, []), (.goto 4, 3, [3])]),
  (38, [(.iconst 0, 1, []), (.nop, 0, [3])]),
  (39, [(.iadd, 1, []), (.istore_n 3, 1, []), (.iinc 4 1, 3, []), (.goto (-39), 3, [1])]),
  (47, [(.iload_n 3, 1, []), (.ireturn, 1, [])])]
abbrev M_X12_byAll : Md := (299, 12, 5, (some .int), P_X12_byAll)
theorem ok_X12_byAll : k_okM M_X12_byAll := by unfold k_okM; decide +kernel
def P_X12_longest : CB := [(0, [(.aload_n 0, 1, []), (.aload_n 0, 1, []), (.getfield 61, 3, [12, 23, 1]), (.sipush 2400, 3, []), (.iload_n 1, 1, []), (.imul, 1, []), (.iaload, 1, []), (.iload_n 2, 1, []), (.invokevirtual 461, 3, [297, 3, 12]), (.ifCond .eq 7, 3, [1]), (.iconst 1, 1, []), (.goto 4, 3, [2])]),
  (22, [(.iconst 0, 1, []), (.nop, 0, [2])]),
  (23, [(.istore_n 3, 1, []), (.iload_n 3, 1, []), (.istore 4, 2, []), (.iconst 0, 1, []), (.istore 5, 2, []), (.nop, 0, [3])]),
  (30, [(.iload 5, 2, []), (.aload_n 0, 1, []), (.getfield 58, 3, [12, 22, 1]), (.iload_n 1, 1, []), (.iaload, 1, []), (.if_icmp .ge 46, 3, [6]), (.aload_n 0, 1, []), (.aload_n 0, 1, []), (.getfield 64, 3, [12, 24, 1]), (.sipush 2400, 3, []), (.iload_n 1, 1, []), (.imul, 1, []), (.iload 5, 2, []), (.iadd, 1, []), (.iaload, 1, []), (.iload_n 2, 1, []), (.invokevirtual 461, 3, [297, 3, 12]), (.ifCond .eq 9, 3, [4]), (.iload_n 3, 1, []), (.iconst 1, 1, []), (.iadd, 1, []), (.goto 4, 3, [5])]),
  (68, [(.iconst 0, 1, []), (.nop, 0, [5])]),
  (69, [(.istore_n 3, 1, []), (.iload 4, 2, []), (.iload_n 3, 1, []), (.invokestatic 9, 3, [0]), (.istore 4, 2, []), (.iinc 5 1, 3, []), (.goto (-51), 3, [3])]),
  (84, [(.iload 4, 2, []), (.ireturn, 1, [])])]
abbrev M_X12_longest : Md := (300, 12, 6, (some .int), P_X12_longest)
theorem ok_X12_longest : k_okM M_X12_longest := by unfold k_okM; decide +kernel
def P_X12_away : CB := [(0, [(.iconst 0, 1, []), (.istore_n 3, 1, []), (.iconst 0, 1, []), (.istore 4, 2, []), (.nop, 0, [1])]),
  (5, [(.iload 4, 2, []), (.aload_n 0, 1, []), (.getfield 58, 3, [12, 22, 1]), (.iload_n 1, 1, []), (.iaload, 1, []), (.if_icmp .ge 77, 3, [4]), (.aload_n 0, 1, []), (.getfield 61, 3, [12, 23, 1]), (.sipush 2400, 3, []), (.iload_n 1, 1, []), (.imul, 1, []), (.iload 4, 2, []), (.iadd, 1, []), (.iaload, 1, []), (.istore 5, 2, []), (.aload_n 0, 1, []), (.getfield 64, 3, [12, 24, 1]), (.sipush 2400, 3, []), (.iload_n 1, 1, []), (.imul, 1, []), (.iload 4, 2, []), (.iadd, 1, []), (.iaload, 1, []), (.istore 6, 2, []), (.iload_n 3, 1, []), (.iload 5, 2, []), (.invokestatic 211, 3, [203, 1]), (.iload 6, 2, []), (.invokestatic 211, 3, [203, 1]), (.if_icmp .ne 24, 3, [2]), (.aload_n 0, 1, []), (.iload 5, 2, []), (.iload_n 2, 1, []), (.invokevirtual 461, 3, [297, 3, 12]), (.aload_n 0, 1, []), (.iload 6, 2, []), (.iload_n 2, 1, []), (.invokevirtual 461, 3, [297, 3, 12]), (.if_icmp .eq 7, 3, [2]), (.iconst 1, 1, []), (.goto 4, 3, [3])]),
  (81, [(.iconst 0, 1, []), (.nop, 0, [3])]),
  (82, [(.iadd, 1, []), (.istore_n 3, 1, []), (.iinc 4 1, 3, []), (.goto (-82), 3, [1])]),
  (90, [(.iload_n 3, 1, []), (.ireturn, 1, [])])]
abbrev M_X12_away : Md := (301, 12, 7, (some .int), P_X12_away)
theorem ok_X12_away : k_okM M_X12_away := by unfold k_okM; decide +kernel
def P_X12_keepNow : CB := [(0, [(.iconst 0, 1, []), (.istore_n 1, 1, []), (.nop, 0, [1])]),
  (2, [(.iload_n 1, 1, []), (.aload_n 0, 1, []), (.getfield 202, 3, [12, 26, 0]), (.if_icmp .ge 87, 3, [4]), (.aload_n 0, 1, []), (.getfield 128, 3, [12, 53, 1]), (.iload_n 1, 1, []), (.aload_n 0, 1, []), (.getfield 58, 3, [12, 22, 1]), (.iload_n 1, 1, []), (.iaload, 1, []), (.iastore, 1, []), (.iconst 0, 1, []), (.istore_n 2, 1, []), (.nop, 0, [2])]),
  (24, [(.iload_n 2, 1, []), (.aload_n 0, 1, []), (.getfield 58, 3, [12, 22, 1]), (.iload_n 1, 1, []), (.iaload, 1, []), (.if_icmp .ge 57, 3, [3]), (.aload_n 0, 1, []), (.getfield 122, 3, [12, 51, 1]), (.sipush 2400, 3, []), (.iload_n 1, 1, []), (.imul, 1, []), (.iload_n 2, 1, []), (.iadd, 1, []), (.aload_n 0, 1, []), (.getfield 61, 3, [12, 23, 1]), (.sipush 2400, 3, []), (.iload_n 1, 1, []), (.imul, 1, []), (.iload_n 2, 1, []), (.iadd, 1, []), (.iaload, 1, []), (.iastore, 1, []), (.aload_n 0, 1, []), (.getfield 125, 3, [12, 52, 1]), (.sipush 2400, 3, []), (.iload_n 1, 1, []), (.imul, 1, []), (.iload_n 2, 1, []), (.iadd, 1, []), (.aload_n 0, 1, []), (.getfield 64, 3, [12, 24, 1]), (.sipush 2400, 3, []), (.iload_n 1, 1, []), (.imul, 1, []), (.iload_n 2, 1, []), (.iadd, 1, []), (.iaload, 1, []), (.iastore, 1, []), (.iinc 2 1, 3, []), (.goto (-61), 3, [2])]),
  (88, [(.iinc 1 1, 3, []), (.goto (-89), 3, [1])]),
  (94, [(.return_, 1, [])])]
abbrev M_X12_keepNow : Md := (302, 12, 3, none, P_X12_keepNow)
theorem ok_X12_keepNow : k_okM M_X12_keepNow := by unfold k_okM; decide +kernel
def P_X12_bringNow : CB := [(0, [(.iconst 0, 1, []), (.istore_n 1, 1, []), (.nop, 0, [1])]),
  (2, [(.iload_n 1, 1, []), (.aload_n 0, 1, []), (.getfield 202, 3, [12, 26, 0]), (.if_icmp .ge 92, 3, [4]), (.aload_n 0, 1, []), (.getfield 58, 3, [12, 22, 1]), (.iload_n 1, 1, []), (.aload_n 0, 1, []), (.getfield 128, 3, [12, 53, 1]), (.iload_n 1, 1, []), (.iaload, 1, []), (.iastore, 1, []), (.iconst 0, 1, []), (.istore_n 2, 1, []), (.nop, 0, [2])]),
  (24, [(.iload_n 2, 1, []), (.aload_n 0, 1, []), (.getfield 58, 3, [12, 22, 1]), (.iload_n 1, 1, []), (.iaload, 1, []), (.if_icmp .ge 57, 3, [3]), (.aload_n 0, 1, []), (.getfield 61, 3, [12, 23, 1]), (.sipush 2400, 3, []), (.iload_n 1, 1, []), (.imul, 1, []), (.iload_n 2, 1, []), (.iadd, 1, []), (.aload_n 0, 1, []), (.getfield 122, 3, [12, 51, 1]), (.sipush 2400, 3, []), (.iload_n 1, 1, []), (.imul, 1, []), (.iload_n 2, 1, []), (.iadd, 1, []), (.iaload, 1, []), (.iastore, 1, []), (.aload_n 0, 1, []), (.getfield 64, 3, [12, 24, 1]), (.sipush 2400, 3, []), (.iload_n 1, 1, []), (.imul, 1, []), (.iload_n 2, 1, []), (.iadd, 1, []), (.aload_n 0, 1, []), (.getfield 125, 3, [12, 52, 1]), (.sipush 2400, 3, []), (.iload_n 1, 1, []), (.imul, 1, []), (.iload_n 2, 1, []), (.iadd, 1, []), (.iaload, 1, []), (.iastore, 1, []), (.iinc 2 1, 3, []), (.goto (-61), 3, [2])]),
  (88, [(.aload_n 0, 1, []), (.iload_n 1, 1, []), (.invokevirtual 266, 3, [220, 2, 12]), (.iinc 1 1, 3, []), (.goto (-94), 3, [1])]),
  (99, [(.return_, 1, [])])]
abbrev M_X12_bringNow : Md := (303, 12, 3, none, P_X12_bringNow)
theorem ok_X12_bringNow : k_okM M_X12_bringNow := by unfold k_okM; decide +kernel
def P_X12_lengths : CB := [(0, [(.iconst 0, 1, []), (.istore_n 2, 1, []), (.iconst 0, 1, []), (.istore_n 3, 1, []), (.nop, 0, [1])]),
  (4, [(.iload_n 3, 1, []), (.aload_n 0, 1, []), (.getfield 202, 3, [12, 26, 0]), (.if_icmp .ge 36, 3, [4]), (.iload_n 2, 1, []), (.iload_n 1, 1, []), (.ifCond .eq 18, 3, [2]), (.aload_n 0, 1, []), (.getfield 58, 3, [12, 22, 1]), (.iload_n 3, 1, []), (.iaload, 1, []), (.aload_n 0, 1, []), (.iload_n 3, 1, []), (.invokevirtual 378, 3, [261, 2, 12]), (.isub, 1, []), (.goto 8, 3, [3])]),
  (32, [(.aload_n 0, 1, []), (.iload_n 3, 1, []), (.invokevirtual 378, 3, [261, 2, 12]), (.nop, 0, [3])]),
  (37, [(.iadd, 1, []), (.istore_n 2, 1, []), (.iinc 3 1, 3, []), (.goto (-38), 3, [1])]),
  (45, [(.iload_n 2, 1, []), (.ireturn, 1, [])])]
abbrev M_X12_lengths : Md := (304, 12, 4, (some .int), P_X12_lengths)
theorem ok_X12_lengths : k_okM M_X12_lengths := by unfold k_okM; decide +kernel
def P_X12_beside : CB := [(0, [(.iload_n 1, 1, []), (.iconst 1, 1, []), (.bipush 20, 2, []), (.invokestatic 175, 3, [179, 3]), (.ifCond .eq 22, 3, [1]), (.iload_n 2, 1, []), (.iconst 1, 1, []), (.bipush 20, 2, []), (.invokestatic 175, 3, [179, 3]), (.ifCond .eq 12, 3, [1]), (.iload_n 3, 1, []), (.iconst 0, 1, []), (.iconst 5, 1, []), (.invokestatic 175, 3, [179, 3]), (.ifCond .ne 5, 3, [2]), (.nop, 0, [1])]),
  (29, [(.iconst (-1), 1, []), (.ireturn, 1, [])]),
  (31, [(.aload_n 0, 1, []), (.invokevirtual 464, 3, [302, 1, 12]), (.iload_n 3, 1, []), (.iconst 3, 1, []), (.if_icmp .ge 11, 3, [3]), (.aload_n 0, 1, []), (.iload_n 3, 1, []), (.invokevirtual 467, 3, [306, 2, 12]), (.goto 10, 3, [4])]),
  (48, [(.aload_n 0, 1, []), (.iload_n 1, 1, []), (.iload_n 2, 1, []), (.iload_n 3, 1, []), (.invokevirtual 470, 3, [307, 4, 12]), (.nop, 0, [4])]),
  (55, [(.istore 4, 2, []), (.aload_n 0, 1, []), (.invokevirtual 473, 3, [303, 1, 12]), (.iload 4, 2, []), (.ireturn, 1, [])])]
abbrev M_X12_beside : Md := (305, 12, 5, (some .int), P_X12_beside)
theorem ok_X12_beside : k_okM M_X12_beside := by unfold k_okM; decide +kernel
def P_X12_besideOrder : CB := [(0, [(.aload_n 0, 1, []), (.invokevirtual 476, 3, [242, 1, 12]), (.istore_n 2, 1, []), (.iconst 0, 1, []), (.istore_n 3, 1, []), (.iconst 0, 1, []), (.istore 4, 2, []), (.nop, 0, [1])]),
  (10, [(.iload 4, 2, []), (.aload_n 0, 1, []), (.getfield 202, 3, [12, 26, 0]), (.if_icmp .ge 36, 3, [4]), (.iload_n 3, 1, []), (.aload_n 0, 1, []), (.getfield 43, 3, [12, 17, 1]), (.iload 4, 2, []), (.iaload, 1, []), (.ifCond .le 16, 3, [2]), (.iload_n 2, 1, []), (.iload 4, 2, []), (.ishr, 1, []), (.iconst 1, 1, []), (.iand, 1, []), (.ifCond .ne 7, 3, [2]), (.iconst 1, 1, []), (.goto 4, 3, [3])]),
  (43, [(.iconst 0, 1, []), (.nop, 0, [3])]),
  (44, [(.iadd, 1, []), (.istore_n 3, 1, []), (.iinc 4 1, 3, []), (.goto (-39), 3, [1])]),
  (52, [(.iload_n 1, 1, []), (.ifCond .ne 7, 3, [5]), (.iload_n 3, 1, []), (.goto 17, 3, [8])]),
  (60, [(.aload_n 0, 1, []), (.iload_n 1, 1, []), (.iconst 2, 1, []), (.if_icmp .ne 7, 3, [6]), (.iconst 1, 1, []), (.goto 4, 3, [7])]),
  (70, [(.iconst 0, 1, []), (.nop, 0, [7])]),
  (71, [(.invokevirtual 479, 3, [304, 2, 12]), (.nop, 0, [8])]),
  (74, [(.ireturn, 1, [])])]
abbrev M_X12_besideOrder : Md := (306, 12, 5, (some .int), P_X12_besideOrder)
theorem ok_X12_besideOrder : k_okM M_X12_besideOrder := by unfold k_okM; decide +kernel
def P_X12_besidePress : CB := [(0, [(.aload_n 0, 1, []), (.iload_n 1, 1, []), (.iload_n 2, 1, []), (.invokevirtual 483, 3, [249, 3, 12]), (.iconst (-1), 1, []), (.if_icmp .eq 7, 3, [1]), (.iconst 1, 1, []), (.goto 4, 3, [2])]),
  (14, [(.iconst 0, 1, []), (.nop, 0, [2])]),
  (15, [(.istore 4, 2, []), (.iload_n 3, 1, []), (.iconst 3, 1, []), (.if_icmp .ne 16, 3, [4]), (.iload 4, 2, []), (.ifCond .eq 7, 3, [3]), (.iconst 1, 1, []), (.goto 30, 3, [8])]),
  (31, [(.iconst 0, 1, []), (.goto 26, 3, [8])]),
  (35, [(.iload 4, 2, []), (.ifCond .eq 20, 3, [7]), (.aload_n 0, 1, []), (.iload_n 3, 1, []), (.iconst 5, 1, []), (.if_icmp .ne 7, 3, [5]), (.iconst 1, 1, []), (.goto 4, 3, [6])]),
  (50, [(.iconst 0, 1, []), (.nop, 0, [6])]),
  (51, [(.invokevirtual 479, 3, [304, 2, 12]), (.goto 4, 3, [8])]),
  (57, [(.iconst (-1), 1, []), (.nop, 0, [8])]),
  (58, [(.ireturn, 1, [])])]
abbrev M_X12_besidePress : Md := (307, 12, 5, (some .int), P_X12_besidePress)
theorem ok_X12_besidePress : k_okM M_X12_besidePress := by unfold k_okM; decide +kernel
def P_X12_why : CB := [(0, [(.aload_n 0, 1, []), (.iload_n 1, 1, []), (.invokevirtual 220, 3, [198, 2, 12]), (.ifCond .eq 12, 3, [1]), (.aload_n 0, 1, []), (.getfield 43, 3, [12, 17, 1]), (.iload_n 1, 1, []), (.iaload, 1, []), (.ifCond .ne 5, 3, [2]), (.nop, 0, [1])]),
  (17, [(.iconst (-1), 1, []), (.ireturn, 1, [])]),
  (19, [(.aload_n 0, 1, []), (.iconst 0, 1, []), (.invokevirtual 309, 3, [236, 2, 12]), (.iconst (-1), 1, []), (.istore_n 2, 1, []), (.iconst 0, 1, []), (.istore_n 3, 1, []), (.nop, 0, [3])]),
  (28, [(.iload_n 3, 1, []), (.iconst 1, 1, []), (.aload_n 0, 1, []), (.getfield 202, 3, [12, 26, 0]), (.ishl, 1, []), (.if_icmp .ge 49, 3, [8]), (.iload_n 3, 1, []), (.iload_n 1, 1, []), (.ishr, 1, []), (.iconst 1, 1, []), (.iand, 1, []), (.iconst 1, 1, []), (.if_icmp .eq 34, 3, [7]), (.iload_n 3, 1, []), (.iload_n 2, 1, []), (.invokestatic 363, 3, [255, 2]), (.ifCond .ne 6, 3, [4]), (.goto 23, 3, [7])]),
  (58, [(.aload_n 0, 1, []), (.iload_n 3, 1, []), (.putfield 240, 3, [12, 28, 0]), (.aload_n 0, 1, []), (.iload_n 1, 1, []), (.invokevirtual 316, 3, [238, 2, 12]), (.iconst (-1), 1, []), (.if_icmp .eq 7, 3, [5]), (.iload_n 3, 1, []), (.goto 4, 3, [6])]),
  (76, [(.iload_n 2, 1, []), (.nop, 0, [6])]),
  (77, [(.istore_n 2, 1, []), (.nop, 0, [7])]),
  (78, [(.iinc 3 1, 3, []), (.goto (-53), 3, [3])]),
  (84, [(.aload_n 0, 1, []), (.iconst 1, 1, []), (.invokevirtual 309, 3, [236, 2, 12]), (.iload_n 2, 1, []), (.ireturn, 1, [])])]
abbrev M_X12_why : Md := (308, 12, 4, (some .int), P_X12_why)
theorem ok_X12_why : k_okM M_X12_why := by unfold k_okM; decide +kernel
def P_X12_wasThere : CB := [(0, [(.aload_n 0, 1, []), (.getfield 61, 3, [12, 23, 1]), (.sipush 2400, 3, []), (.iload_n 1, 1, []), (.imul, 1, []), (.iload_n 2, 1, []), (.iadd, 1, []), (.iaload, 1, []), (.istore_n 3, 1, []), (.aload_n 0, 1, []), (.getfield 64, 3, [12, 24, 1]), (.sipush 2400, 3, []), (.iload_n 1, 1, []), (.imul, 1, []), (.iload_n 2, 1, []), (.iadd, 1, []), (.iaload, 1, []), (.istore 4, 2, []), (.iconst 0, 1, []), (.istore 5, 2, []), (.nop, 0, [1])]),
  (30, [(.iload 5, 2, []), (.aload_n 0, 1, []), (.getfield 128, 3, [12, 53, 1]), (.iload_n 1, 1, []), (.iaload, 1, []), (.if_icmp .ge 67, 3, [5]), (.aload_n 0, 1, []), (.getfield 122, 3, [12, 51, 1]), (.sipush 2400, 3, []), (.iload_n 1, 1, []), (.imul, 1, []), (.iload 5, 2, []), (.iadd, 1, []), (.iaload, 1, []), (.istore 6, 2, []), (.aload_n 0, 1, []), (.getfield 125, 3, [12, 52, 1]), (.sipush 2400, 3, []), (.iload_n 1, 1, []), (.imul, 1, []), (.iload 5, 2, []), (.iadd, 1, []), (.iaload, 1, []), (.istore 7, 2, []), (.iload 6, 2, []), (.iload_n 3, 1, []), (.if_icmp .ne 10, 3, [2]), (.iload 7, 2, []), (.iload 4, 2, []), (.if_icmp .eq 16, 3, [3]), (.nop, 0, [2])]),
  (84, [(.iload 6, 2, []), (.iload 4, 2, []), (.if_icmp .ne 11, 3, [4]), (.iload 7, 2, []), (.iload_n 3, 1, []), (.if_icmp .ne 5, 3, [4]), (.nop, 0, [3])]),
  (97, [(.iconst 1, 1, []), (.ireturn, 1, [])]),
  (99, [(.iinc 5 1, 3, []), (.goto (-72), 3, [1])]),
  (105, [(.iconst 0, 1, []), (.ireturn, 1, [])])]
abbrev M_X12_wasThere : Md := (309, 12, 8, (some .boolean), P_X12_wasThere)
theorem ok_X12_wasThere : k_okM M_X12_wasThere := by unfold k_okM; decide +kernel
end
section
/-! code as data (written by wip/whole/gencode.py) -/
def P_X12_steady : CB := [(0, [(.aload_n 0, 1, []), (.invokevirtual 464, 3, [302, 1, 12]), (.aload_n 0, 1, []), (.invokevirtual 476, 3, [242, 1, 12]), (.pop, 1, []), (.iconst 1, 1, []), (.istore_n 1, 1, []), (.iconst 0, 1, []), (.istore_n 2, 1, []), (.nop, 0, [1])]),
  (13, [(.iload_n 2, 1, []), (.aload_n 0, 1, []), (.getfield 202, 3, [12, 26, 0]), (.if_icmp .ge 71, 3, [8]), (.iload_n 1, 1, []), (.ifCond .eq 22, 3, [2]), (.aload_n 0, 1, []), (.getfield 58, 3, [12, 22, 1]), (.iload_n 2, 1, []), (.iaload, 1, []), (.aload_n 0, 1, []), (.getfield 128, 3, [12, 53, 1]), (.iload_n 2, 1, []), (.iaload, 1, []), (.if_icmp .ne 7, 3, [2]), (.iconst 1, 1, []), (.goto 4, 3, [3])]),
  (44, [(.iconst 0, 1, []), (.nop, 0, [3])]),
  (45, [(.istore_n 1, 1, []), (.iconst 0, 1, []), (.istore_n 3, 1, []), (.nop, 0, [4])]),
  (48, [(.iload_n 3, 1, []), (.aload_n 0, 1, []), (.getfield 58, 3, [12, 22, 1]), (.iload_n 2, 1, []), (.iaload, 1, []), (.if_icmp .ge 28, 3, [7]), (.iload_n 1, 1, []), (.ifCond .eq 16, 3, [5]), (.aload_n 0, 1, []), (.iload_n 2, 1, []), (.iload_n 3, 1, []), (.invokevirtual 486, 3, [309, 3, 12]), (.ifCond .eq 7, 3, [5]), (.iconst 1, 1, []), (.goto 4, 3, [6])]),
  (75, [(.iconst 0, 1, []), (.nop, 0, [6])]),
  (76, [(.istore_n 1, 1, []), (.iinc 3 1, 3, []), (.goto (-32), 3, [4])]),
  (83, [(.iinc 2 1, 3, []), (.goto (-73), 3, [1])]),
  (89, [(.aload_n 0, 1, []), (.invokevirtual 473, 3, [303, 1, 12]), (.iload_n 1, 1, []), (.ireturn, 1, [])])]
abbrev M_X12_steady : Md := (310, 12, 4, (some .boolean), P_X12_steady)
theorem ok_X12_steady : k_okM M_X12_steady := by unfold k_okM; decide +kernel
def P_X12_room : CB := [(0, [(.iload_n 0, 1, []), (.iload_n 2, 1, []), (.iadd, 1, []), (.iload_n 1, 1, []), (.iload_n 2, 1, []), (.iadd, 1, []), (.idiv, 1, []), (.ireturn, 1, [])])]
abbrev M_X12_room : Md := (311, 12, 3, (some .int), P_X12_room)
theorem ok_X12_room : k_okM M_X12_room := by unfold k_okM; decide +kernel
def P_X12_panel : CB := [(0, [(.iload_n 1, 1, []), (.iconst 1, 1, []), (.sipush 200, 3, []), (.invokestatic 175, 3, [179, 3]), (.ifCond .eq 34, 3, [1]), (.iload_n 2, 1, []), (.iconst 1, 1, []), (.sipush 200, 3, []), (.invokestatic 175, 3, [179, 3]), (.ifCond .eq 23, 3, [1]), (.iload_n 3, 1, []), (.iconst 0, 1, []), (.bipush 9, 2, []), (.invokestatic 175, 3, [179, 3]), (.ifCond .eq 13, 3, [1]), (.iload 4, 2, []), (.iconst 0, 1, []), (.iconst 3, 1, []), (.invokestatic 175, 3, [179, 3]), (.ifCond .ne 5, 3, [2]), (.nop, 0, [1])]),
  (42, [(.iconst (-1), 1, []), (.ireturn, 1, [])]),
  (44, [(.iload_n 2, 1, []), (.aload_n 0, 1, []), (.getfield 139, 3, [12, 2, 0]), (.iload_n 3, 1, []), (.invokestatic 489, 3, [311, 3]), (.istore 5, 2, []), (.iload_n 2, 1, []), (.aload_n 0, 1, []), (.getfield 135, 3, [12, 1, 0]), (.iload_n 3, 1, []), (.invokestatic 489, 3, [311, 3]), (.istore 6, 2, []), (.iload_n 1, 1, []), (.aload_n 0, 1, []), (.getfield 135, 3, [12, 1, 0]), (.iload_n 3, 1, []), (.invokestatic 489, 3, [311, 3]), (.istore 7, 2, []), (.iload 7, 2, []), (.iload 5, 2, []), (.imul, 1, []), (.istore 8, 2, []), (.iload_n 1, 1, []), (.aload_n 0, 1, []), (.getfield 139, 3, [12, 2, 0]), (.iload_n 3, 1, []), (.invokestatic 489, 3, [311, 3]), (.iload 6, 2, []), (.imul, 1, []), (.istore 9, 2, []), (.iload 4, 2, []), (.iconst 2, 1, []), (.if_icmp .ge 32, 3, [6]), (.iload 4, 2, []), (.iconst 1, 1, []), (.if_icmp .ne 18, 3, [4]), (.iload 9, 2, []), (.iload 8, 2, []), (.if_icmp .le 7, 3, [3]), (.iconst 1, 1, []), (.goto 14, 3, [5])]),
  (121, [(.iconst 0, 1, []), (.goto 10, 3, [5])]),
  (125, [(.iload 8, 2, []), (.iload 9, 2, []), (.invokestatic 9, 3, [0]), (.nop, 0, [5])]),
  (132, [(.ireturn, 1, [])]),
  (133, [(.iconst (-1), 1, []), (.istore 10, 2, []), (.iconst 0, 1, []), (.istore 11, 2, []), (.iconst 0, 1, []), (.istore 12, 2, []), (.nop, 0, [7])]),
  (142, [(.iload 12, 2, []), (.iload 7, 2, []), (.if_icmp .gt 67, 3, [11]), (.iload_n 1, 1, []), (.iload 12, 2, []), (.aload_n 0, 1, []), (.getfield 135, 3, [12, 1, 0]), (.iload_n 3, 1, []), (.iadd, 1, []), (.imul, 1, []), (.isub, 1, []), (.istore 13, 2, []), (.iload 12, 2, []), (.iload 5, 2, []), (.imul, 1, []), (.iload 13, 2, []), (.ifCond .le 19, 3, [8]), (.iload 13, 2, []), (.aload_n 0, 1, []), (.getfield 139, 3, [12, 2, 0]), (.iload_n 3, 1, []), (.invokestatic 489, 3, [311, 3]), (.iload 6, 2, []), (.imul, 1, []), (.goto 4, 3, [9])]),
  (188, [(.iconst 0, 1, []), (.nop, 0, [9])]),
  (189, [(.iadd, 1, []), (.istore 14, 2, []), (.iload 14, 2, []), (.iload 10, 2, []), (.if_icmp .le 11, 3, [10]), (.iload 14, 2, []), (.istore 10, 2, []), (.iload 12, 2, []), (.istore 11, 2, []), (.nop, 0, [10])]),
  (207, [(.iinc 12 1, 3, []), (.goto (-68), 3, [7])]),
  (213, [(.iload 4, 2, []), (.iconst 2, 1, []), (.if_icmp .ne 8, 3, [12]), (.iload 10, 2, []), (.goto 5, 3, [13])]),
  (224, [(.iload 11, 2, []), (.nop, 0, [13])]),
  (226, [(.ireturn, 1, [])])]
abbrev M_X12_panel : Md := (312, 12, 15, (some .int), P_X12_panel)
theorem ok_X12_panel : k_okM M_X12_panel := by unfold k_okM; decide +kernel
def P_X12_unwire : CB := [(0, [(.aload_n 0, 1, []), (.iload_n 1, 1, []), (.invokevirtual 220, 3, [198, 2, 12]), (.ifCond .eq 12, 3, [1]), (.aload_n 0, 1, []), (.getfield 49, 3, [12, 19, 1]), (.iload_n 1, 1, []), (.iaload, 1, []), (.ifCond .ne 5, 3, [2]), (.nop, 0, [1])]),
  (17, [(.iconst 0, 1, []), (.ireturn, 1, [])]),
  (19, [(.aload_n 0, 1, []), (.getfield 49, 3, [12, 19, 1]), (.iload_n 1, 1, []), (.iconst 0, 1, []), (.iastore, 1, []), (.iconst 0, 1, []), (.istore_n 2, 1, []), (.nop, 0, [3])]),
  (28, [(.iload_n 2, 1, []), (.sipush 324, 3, []), (.if_icmp .ge 25, 3, [4]), (.aload_n 0, 1, []), (.getfield 71, 3, [12, 27, 1]), (.sipush 324, 3, []), (.iload_n 1, 1, []), (.imul, 1, []), (.iload_n 2, 1, []), (.iadd, 1, []), (.dup2, 1, []), (.iaload, 1, []), (.iconst 2, 1, []), (.iand, 1, []), (.iastore, 1, []), (.iinc 2 1, 3, []), (.goto (-26), 3, [3])]),
  (57, [(.iconst 0, 1, []), (.istore_n 2, 1, []), (.nop, 0, [5])]),
  (59, [(.iload_n 2, 1, []), (.aload_n 0, 1, []), (.getfield 43, 3, [12, 17, 1]), (.iload_n 1, 1, []), (.iaload, 1, []), (.if_icmp .ge 34, 3, [6]), (.aload_n 0, 1, []), (.getfield 71, 3, [12, 27, 1]), (.sipush 324, 3, []), (.iload_n 1, 1, []), (.imul, 1, []), (.aload_n 0, 1, []), (.getfield 46, 3, [12, 18, 1]), (.iconst 4, 1, []), (.iload_n 1, 1, []), (.imul, 1, []), (.iload_n 2, 1, []), (.iadd, 1, []), (.iaload, 1, []), (.iadd, 1, []), (.dup2, 1, []), (.iaload, 1, []), (.iconst 1, 1, []), (.ior, 1, []), (.iastore, 1, []), (.iinc 2 1, 3, []), (.goto (-38), 3, [5])]),
  (100, [(.iconst 1, 1, []), (.ireturn, 1, [])])]
abbrev M_X12_unwire : Md := (313, 12, 3, (some .boolean), P_X12_unwire)
theorem ok_X12_unwire : k_okM M_X12_unwire := by unfold k_okM; decide +kernel
def P_X12_count : CB := [(0, [(.iload_n 1, 1, []), (.tableswitch 69 0 5 #[39, 44, 49, 54, 59, 64], 39, [7, 1, 2, 3, 4, 5, 6])]),
  (40, [(.aload_n 0, 1, []), (.getfield 199, 3, [12, 13, 0]), (.ireturn, 1, [])]),
  (45, [(.aload_n 0, 1, []), (.getfield 202, 3, [12, 26, 0]), (.ireturn, 1, [])]),
  (50, [(.aload_n 0, 1, []), (.getfield 152, 3, [12, 5, 0]), (.ireturn, 1, [])]),
  (55, [(.aload_n 0, 1, []), (.getfield 135, 3, [12, 1, 0]), (.ireturn, 1, [])]),
  (60, [(.aload_n 0, 1, []), (.getfield 139, 3, [12, 2, 0]), (.ireturn, 1, [])]),
  (65, [(.aload_n 0, 1, []), (.getfield 142, 3, [12, 3, 0]), (.ireturn, 1, [])]),
  (70, [(.iconst (-1), 1, []), (.ireturn, 1, [])])]
abbrev M_X12_count : Md := (314, 12, 2, (some .int), P_X12_count)
theorem ok_X12_count : k_okM M_X12_count := by unfold k_okM; decide +kernel
end
section
/-! what the machine's small steps say -/
theorem k_dc_spec {bts : ByteArray} {pc : Nat} {i : Instr} {len n : Nat} (h : k_dc bts pc i len n = true) : decode bts pc = .ok (i, n) ∧ len = n := by
  simp only [k_dc, Bool.and_eq_true, decide_eq_true_eq] at h
  have := Nat.eq_of_beq_eq_true h.2
  subst this
  exact ⟨h.1, rfl⟩
theorem k_tg_spec {pcs : List Nat} {b pc : Nat} {off : Int} (h : k_tg pcs b pc off = true) : ∃ t, pcs[b]? = some t ∧ (pc : Int) + off = (t : Int) := by
  unfold k_tg at h
  cases hp : pcs[b]? with
  | none => rw [hp] at h; cases h
  | some t => rw [hp] at h; exact ⟨t, rfl, of_decide_eq_true h⟩
theorem k_get_spec {K : AV → Prop} : ∀ {L : KL} {k : Nat}, k_get L k K → ∃ v, L[k]? = some (some v) ∧ K v
  | [], _, h => by simp [k_get] at h
  | some v :: l, 0, h => ⟨v, rfl, h⟩
  | none :: l, 0, h => by simp [k_get] at h
  | some v :: l, n + 1, h => by
    obtain ⟨w, h1, h2⟩ := k_get_spec (L := l) (k := n) h
    exact ⟨w, h1, h2⟩
  | none :: l, n + 1, h => by
    obtain ⟨w, h1, h2⟩ := k_get_spec (L := l) (k := n) h
    exact ⟨w, h1, h2⟩
theorem k_set_spec {v : AV} : ∀ {L : KL} {k : Nat} {K : KL → Prop}, k_set L k v K → k < L.length ∧ K (L.set k (some v))
  | [], _, _, h => by simp [k_set] at h
  | a :: l, 0, K, h => ⟨Nat.zero_lt_succ _, h⟩
  | a :: l, n + 1, K, h => by
    obtain ⟨h1, h2⟩ := k_set_spec (L := l) (k := n) (K := fun l' => K (a :: l')) h
    exact ⟨Nat.succ_lt_succ h1, h2⟩
theorem k_pop_spec {K : List AV → List AV → Prop} : ∀ {n : Nat} {S acc : List AV}, k_pop n S acc K → ∃ xs S', S = xs ++ S' ∧ xs.length = n ∧ K (xs.reverse ++ acc) S'
  | 0, S, acc, h => ⟨[], S, rfl, rfl, h⟩
  | n + 1, [], acc, h => by simp [k_pop] at h
  | n + 1, v :: S, acc, h => by
    obtain ⟨xs, S', h1, h2, h3⟩ := k_pop_spec (n := n) (S := S) (acc := v :: acc) h
    refine ⟨v :: xs, S', by rw [h1]; rfl, by simp [h2], ?_⟩
    simpa using h3
theorem k_1_spec {x : List Nat} {K : Nat → Prop} (h : k_1 x K) : ∃ a r, x = a :: r ∧ K a := by
  cases x with
  | nil => exact h.elim
  | cons a r => exact ⟨a, r, rfl, h⟩
theorem k_2_spec {x : List Nat} {K : Nat → Nat → Prop} (h : k_2 x K) : ∃ a b r, x = a :: b :: r ∧ K a b := by
  match x, h with
  | a :: b :: r, h => exact ⟨a, b, r, rfl, h⟩
theorem k_3_spec {x : List Nat} {K : Nat → Nat → Nat → Prop} (h : k_3 x K) : ∃ a b c r, x = a :: b :: c :: r ∧ K a b c := by
  match x, h with
  | a :: b :: c :: r, h => exact ⟨a, b, c, r, rfl, h⟩
theorem k_int_spec {v : AV} {K : Int → Prop} (h : k_int v K) : ∃ a, v = .inl a ∧ K a := by
  match v, h with
  | .inl a, h => exact ⟨a, rfl, h⟩
theorem k_ref_spec {v : AV} {K : Nat → Prop} (h : k_ref v K) : ∃ a, v = .inr (.inl a) ∧ K a := by
  match v, h with
  | .inr (.inl a), h => exact ⟨a, rfl, h⟩
theorem k_un_spec {S : List AV} {K : Int → List AV → Prop} (h : k_un S K) : ∃ a S', S = .inl a :: S' ∧ K a S' := by
  match S, h with
  | .inl a :: S, h => exact ⟨a, S, rfl, h⟩
theorem k_bin_spec {S : List AV} {K : Int → Int → List AV → Prop} (h : k_bin S K) : ∃ a b S', S = .inl b :: .inl a :: S' ∧ K a b S' := by
  match S, h with
  | .inl b :: .inl a :: S, h => exact ⟨a, b, S, rfl, h⟩
theorem k_ob_spec {S : List AV} {K : Nat → List AV → Prop} (h : k_ob S K) : ∃ o S', S = .inr (.inl o) :: S' ∧ K o S' := by
  match S, h with
  | .inr (.inl o) :: S, h => exact ⟨o, S, rfl, h⟩
theorem k_if_spec {b : Bool} {P : Prop} (h : k_if b P) : b = true ∧ P := by
  cases b with
  | true => exact ⟨rfl, h⟩
  | false => exact h.elim
theorem k_obj_spec {G : Gr} {o ci : Nat} {K : List (Option Nat) → Prop} (h : k_obj G o ci K) : ∃ rs, G[o]? = some (.inl (ci, rs)) ∧ K rs := by
  unfold k_obj at h
  split at h
  · rename_i c rs hG
    obtain ⟨h1, h2⟩ := k_if_spec h
    have := Nat.eq_of_beq_eq_true h1
    subst this
    exact ⟨rs, hG, h2⟩
  · exact h.elim
theorem k_wr_spec {G : Gr} {o ty : Nat} {K : Nat → Prop} (h : k_wr G o ty K) : ∃ n, G[o]? = some (.inr (ty, n)) ∧ K n := by
  unfold k_wr at h
  split at h
  · rename_i t n hG
    obtain ⟨h1, h2⟩ := k_if_spec h
    have := Nat.eq_of_beq_eq_true h1
    subst this
    exact ⟨n, hG, h2⟩
  · exact h.elim
theorem k_rd_spec {G : Gr} {RO : Ro} {m : Mem} {o ty : Nat} {K : Nat → (Int → Int) → Prop} (h : k_rd G RO m o ty K) : (∃ n, G[o]? = some (.inr (ty, n)) ∧ K n (m o)) ∨ ∃ j n f, o = 1000 + j ∧ RO[j]? = some (ty, n, f) ∧ K n f := by
  unfold k_rd at h
  split at h
  · exact Or.inl (k_wr_spec h)
  · rename_i hb
    split at h
    · rename_i t n f hR
      obtain ⟨h1, h2⟩ := k_if_spec h
      have := Nat.eq_of_beq_eq_true h1
      subst this
      have : ¬ o < 1000 := fun q => by rw [show Nat.blt o 1000 = true from Nat.ble_eq_true_of_le q] at hb; cases hb
      exact Or.inr ⟨o - 1000, n, f, by omega, hR, h2⟩
    · exact h.elim
theorem k_len_spec {G : Gr} {RO : Ro} {o : Nat} {K : Nat → Prop} (h : k_len G RO o K) : (∃ ty n, G[o]? = some (.inr (ty, n)) ∧ K n) ∨ ∃ j ty n f, o = 1000 + j ∧ RO[j]? = some (ty, n, f) ∧ K n := by
  unfold k_len at h
  split at h
  · split at h
    · rename_i t n hG
      exact Or.inl ⟨t, n, hG, h⟩
    · exact h.elim
  · rename_i hb
    split at h
    · rename_i t n f hR
      have : ¬ o < 1000 := fun q => by rw [show Nat.blt o 1000 = true from Nat.ble_eq_true_of_le q] at hb; cases hb
      exact Or.inr ⟨o - 1000, t, n, f, by omega, hR, h⟩
    · exact h.elim
theorem k_ar_spec {x : List Nat} {z : Int} {K : Int → Prop} (h : k_ar x z K) : ∃ z', Int32.ofInt z = Int32.ofInt z' ∧ inR z' ∧ K z' := by
  unfold k_ar at h
  split at h
  · exact ⟨z, rfl, h.1, h.2⟩
  · exact ⟨w32 z, (k_ofInt_w z).symm, w32_in z, h⟩
theorem k_lv_in {ad : Nat → Nat} {L : KL} {q : Nat × Value} : q ∈ k_lv ad L ↔ ∃ v, L[q.1]? = some (some v) ∧ q.2 = rv ad v := by
  unfold k_lv
  rw [List.mem_filterMap]
  constructor
  · rintro ⟨i, -, h⟩
    split at h
    · rename_i v hv
      cases h
      exact ⟨v, hv, rfl⟩
    · cases h
  · rintro ⟨v, h1, h2⟩
    refine ⟨q.1, List.mem_range.mpr (List.getElem?_eq_some_iff.mp h1).1, ?_⟩
    rw [h1]
    simp only
    rw [← h2]
theorem kLs_get {ad : Nat → Nat} {ls : Array Slot} {n : Nat} {L : KL} {k : Nat} {v : AV} (h : kLs ad ls n L) (hk : L[k]? = some (some v)) : ls[k]? = some (.val (rv ad v)) ∧ kV v := ⟨h.1.2.2 (k, rv ad v) (k_lv_in.mpr ⟨v, hk, rfl⟩), h.2.2 v (List.mem_of_getElem? hk)⟩
theorem kV_cat {ad : Nat → Nat} {v : AV} (h : kV v) : (rv ad v).category = 1 := by
  match v, h with
  | .inl a, _ => rfl
  | .inr (.inl a), _ => rfl
theorem kLs_set {ad : Nat → Nat} {ls ls' : Array Slot} {n : Nat} {L : KL} {k : Nat} {v : AV} (h : kLs ad ls n L) (hk : k < L.length) (hv : kV v) (h' : lv_has ls' n ((k, rv ad v) :: (k_lv ad L).filter (fun q => !(q.1 == k) && !(q.1 + 1 == k && q.2.category == 2)))) : kLs ad ls' n (L.set k (some v)) := by
  refine ⟨⟨h'.1, h'.2.1, fun q hq => ?_⟩, by rw [List.length_set]; exact h.2.1, fun w hw => ?_⟩
  · obtain ⟨w, h1, h2⟩ := k_lv_in.mp hq
    by_cases hj : q.1 = k
    · rw [hj, List.getElem?_set_self hk] at h1
      cases h1
      have := h'.2.2 (k, rv ad v) List.mem_cons_self
      rw [hj, h2]
      exact this
    · rw [List.getElem?_set_ne (Ne.symm hj)] at h1
      refine h'.2.2 q (List.mem_cons_of_mem _ (List.mem_filter.mpr ⟨k_lv_in.mpr ⟨w, h1, h2⟩, ?_⟩))
      have hc := kV_cat (ad := ad) (h.2.2 w (List.mem_of_getElem? h1))
      rw [h2, hc]
      simp [hj]
  · rcases List.mem_or_eq_of_mem_set hw with h1 | h1
    · exact h.2.2 w h1
    · cases h1; exact hv
theorem k_tc_int {ty : FieldType} (h : k_tc ty = 0) : ty = .int := by cases ty <;> simp [k_tc] at h ⊢
theorem k_tc_bool {ty : FieldType} (h : k_tc ty = 2) : ty = .boolean := by cases ty <;> simp [k_tc] at h ⊢
theorem k_cls_at {ci : Nat} (h : ci ≤ 12) : ∃ q, cls[ci]? = some q := by
  have : ci < cls.length := by simp [cls]; omega
  exact ⟨cls[ci], List.getElem?_eq_getElem this⟩
theorem k_any {α : Type} {l : List α} {f : α → Bool} (h : l.any f = true) : ∃ q ∈ l, f q = true := List.any_eq_true.mp h
theorem k_mset_ne {m : Mem} {o p : Nat} {i v : Int} (h : p ≠ o) : mset m o i v p = m p := by simp [mset, h]
theorem k_mset_at {m : Mem} {o : Nat} {i j v : Int} : mset m o i v o j = if j = i then v else m o j := by simp [mset]
theorem k_mset_in {m : Mem} {o : Nat} {i v : Int} (h : ∀ o i, inR (m o i)) (hv : inR v) : ∀ p j, inR (mset m o i v p j) := by
  intro p j
  unfold mset
  split
  · show inR (if j = i then v else m o j)
    split
    · exact hv
    · exact h o j
  · exact h p j
theorem k_ent_put {cA : Nat → ClassId} {ad : Nat → Nat} {m : Mem} {o ci k : Nat} {rs : List (Option Nat)} {v : Int} (ht : k_tc (k_ty ci k) ≠ 1) : k_ent cA ad (fset m o k v) o (.inl (ci, rs)) = (ad o, .inr (ci, ((List.range (k_nf ci)).map (k_fv ad m o ci rs)).set k (.int (Int32.ofInt v)))) := by
  unfold k_ent
  simp only
  congr 3
  apply List.ext_getElem?
  intro j
  by_cases hj : j = k
  · subst hj
    by_cases hl : j < k_nf ci
    · rw [List.getElem?_set_self (by simpa using hl), List.getElem?_map, List.getElem?_range hl]
      simp [k_fv, ht, k_mset_at, fld, fset]
    · rw [List.getElem?_eq_none (by simpa using hl), List.getElem?_eq_none (by simpa using hl)]
  · rw [List.getElem?_set_ne (Ne.symm hj), List.getElem?_map, List.getElem?_map]
    cases this : (List.range (k_nf ci))[j]? with
    | none => rfl
    | some z =>
      simp only [Option.map_some]
      obtain ⟨h1, h2⟩ := List.getElem?_eq_some_iff.mp this
      rw [List.getElem_range] at h2
      subst h2
      simp only [k_fv, fld, fset, k_mset_at]
      rw [if_neg (fun z : ((j : Nat) : Int) = (k : Int) => hj (by omega))]
end
section
/-! the machine's small steps are the machine's: soundness -/
theorem kHp_up {E : Ev} {ad : Nat → Nat} {A B : Nat → Prop} {m : Mem} {H : Heap} (h : kHp E ad A m H) (hAB : ∀ q, A q → B q) : kHp E ad B m H := ⟨h.1, h.2.1.weaken (fun _ q _ => hAB q.1), h.2.2⟩
theorem kHp_self {E : Ev} {ad : Nat → Nat} {A : Nat → Prop} {m : Mem} {H : Heap} (h : kHp E ad A m H) : kHp E ad (kAd E ad) m H := by
  refine ⟨h.1, ⟨h.2.1.1, fun k q hk => ?_⟩, h.2.2⟩
  unfold k_wl at hk
  rw [List.getElem?_mapIdx] at hk
  cases hd : E.2.2.2.1[k]? with
  | none => rw [hd] at hk; cases hk
  | some d =>
    rw [hd] at hk
    have hk : k_ent E.2.2.1 ad m k d = q := Option.some.inj hk
    refine ⟨k, (List.getElem?_eq_some_iff.mp hd).1, ?_⟩
    rw [← hk]
    match d with
    | .inl (ci, rs) => rfl
    | .inr (ty, n) => rfl
theorem kRo_move {E : Ev} {ad : Nat → Nat} {A : Nat → Prop} {s U : State} {H : Heap} {locs : List Loc} (h : kRo E ad A s s.heap) (hS : va_S A s.heap H locs) (hU : U.heap = H) (hW : s.WarmedH U.vm) (hA : ∀ q, kAd E ad q → A q) : kRo E ad (kAd E ad) U U.heap := by
  have hk : ∀ a : Nat, a < s.heap.size → ¬ A a → H[a]? = s.heap[a]? := hS.2.1
  refine ⟨fun j q hj => ?_, fun j t hj => ?_, fun w hw => ?_⟩
  · rw [hU]; exact (((h.1 j q hj).kept hk).narrow hA).moved hW.alike
  · obtain ⟨h1, h2⟩ := h.2.1 j t hj
    refine ⟨?_, h2⟩
    rw [hU]
    rcases h1 with h1 | h1
    · exact Or.inl ⟨h1.1, ((h1.2.kept hk).narrow hA).moved hW.alike⟩
    · exact Or.inr ⟨h1.1, ((h1.2.kept hk).narrow hA).moved hW.alike⟩
  · have h3 := h.2.2 w hw
    simp only [k_NW, List.mem_cons, List.not_mem_nil, or_false] at hw
    rcases hw with rfl | rfl | rfl <;> exact va_Nw.warmF hW h3
theorem kPc_blind {E : Ev} {as : List AV} {m : Mem} {ad : Nat → Nat} : FrameBlind (va_Pc (as.map (rv ad)) (fun U => kHp E ad (kAd E ad) m U.heap ∧ va_K E.2.1 cls (k_tys E.2.2.1) U ∧ kRo E ad (kAd E ad) U U.heap ∧ kLen E.2.2.2.1)) := by
  intro a U g mk h
  obtain ⟨h1, h2, h3, h4, h5⟩ := h
  have hvm : (U.calling g mk a).vm = U.vm := rfl
  have hal : U.vm.Alike (U.calling g mk a).vm := Vm.Alike.refl U.vm
  refine ⟨h1, h2, va_K.moved hal h3, ⟨fun j q hj => (h4.1 j q hj).moved hal, fun j t hj => ?_, fun w hw => ?_⟩, h5⟩
  · obtain ⟨a1, a2⟩ := h4.2.1 j t hj
    refine ⟨?_, a2⟩
    rcases a1 with a1 | a1
    · exact Or.inl ⟨a1.1, a1.2.moved hal⟩
    · exact Or.inr ⟨a1.1, a1.2.moved hal⟩
  · have h6 := h4.2.2 w hw
    simp only [k_NW, List.mem_cons, List.not_mem_nil, or_false] at hw
    rcases hw with rfl | rfl | rfl <;> exact va_Nw.same rfl rfl h6
section KS
variable {E : Ev} {h : Nat} {M : Md} {T : Option AV → Mem → Prop} {p : Program} {e : Env} {R : Room} {s : State} {mm : MethodId} {args : Array Value} {below : List Frame} {meth : Method} {c : Code} {cells slots : Nat} {Qf : State → Prop} {ad : Nat → Nat} {A : Nat → Prop}
theorem k_callW {Q : Option AV → Mem → Prop} {H : Heap} {locs : List Loc} {pc : Nat} {ls : Array Slot} {st0 rest : List Value}
    (hr : va_Run p E.1 e R s mm args below meth c H locs cells slots 0 0 (F0 mm pc ls st0) rest (fun st oc t => (∃ (r : Option AV) (m' : Mem), oc = .returned (r.map (rv ad)) ∧ Q r m' ∧ kHp E ad (kAd E ad) m' t.heap ∧ ∀ v, r = some v → kV v) ∧ va_F (kAd E ad) st t) (kAd E ad))
    (hS : va_S A s.heap H locs) (hA : ∀ q, kAd E ad q → A q)
    (kk : ∀ (r : Option AV) (m' : Mem) (H1 : Heap) (locs1 : List Loc), Q r m' → kHp E ad (kAd E ad) m' H1 → (∀ v, r = some v → kV v) → va_S A s.heap H1 locs1 → W p E.1 e R s mm args below meth c H1 locs1 cells slots Qf (F0 mm (pc + 3) ls ((r.map (rv ad)).toList ++ rest))) : W p E.1 e R s mm args below meth c H locs cells slots Qf (F0 mm pc ls st0) := by
  intro T hT X
  obtain ⟨v, st₀, t, T', L, h0, X', hL, e1, e2, ⟨⟨r, m', hv, hq, hp, hkv⟩, hz, hk⟩, st⟩ := hr T hT X
  have hv' : v = r.map (rv ad) := by injection hv
  subst hv'
  rw [h0] at hz hk
  obtain ⟨t2, a1, b1⟩ := kk r m' T'.heap (locs ++ L) hq (by rw [e1]; exact hp) hkv
    ⟨Nat.le_trans hS.1 (by rw [e1]; exact hz), fun q h1 h2 => by rw [e1, hk q (Nat.lt_of_lt_of_le h1 hS.1) (fun z => h2 (hA q z))]; exact hS.2.1 q h1 h2, fun q hq => by
      rcases List.mem_append.mp hq with h | h
      · exact hS.2.2 q h
      · exact hA _ (hL q h)⟩ T' rfl X'
  exact ⟨t2, st t2 a1, b1⟩
theorem k_goodTT {n : Nat} (hc : Cond.code (MT n).1 (MT n).2.1 (MT n).2.2.1 (MT n).2.2.2 ∈ TT) : GoodIn TT (Cond.code (MT n).1 (MT n).2.1 (MT n).2.2.1 (MT n).2.2.2 :: TT) := by
  intro w hw
  rcases List.mem_cons.mp hw with rfl | hw
  · exact ⟨hc, good_of_word (TT_good hc)⟩
  · exact ⟨hw, good_of_word (TT_good hw)⟩
theorem k_MR_at {n : Nat} {r : Nat × Nat × Nat × Nat × Nat × Nat} (hr : r ∈ k_MR) (hn : r.1 = n) : Cond.code (MT n).1 (MT n).2.1 (MT n).2.2.1 (MT n).2.2.2 ∈ TT ∧ Cond.initialized (MT n).1.cls ∈ TT ∧ (MT n).2.2.1 ≤ 21 ∧ ((MT n).1.cls ≠ "java/lang/invoke/MethodHandle" ∧ (MT n).1.cls ≠ "java/lang/invoke/VarHandle") ∧ (r.2.2.2.1 = 0 → Cond.static (MT n).1 ∈ TT) ∧ (r.2.2.2.1 = 1 → Cond.instanceMethod (MT n).1 ∈ TT ∧ (Nat.beq r.2.2.2.2.2 9999 = false → Cond.selects (MT n).1.cls (MT n).1 (MT n).1 ∈ TT)) := by
  have h1 := k_MR_ok r hr
  have h2 := k_code_in hr
  obtain ⟨a, b, c, d, f, g⟩ := r
  simp only at hn
  subst hn
  simp only [k_mchk, Bool.and_eq_true, decide_eq_true_eq] at h1
  obtain ⟨h3, h4, h5, h6⟩ := h1
  refine ⟨h2, k_at_in h3, Nat.le_of_ble_eq_true h4, h5, fun hz => ?_, fun hz => ?_⟩
  · simp only at hz
    subst hz
    exact k_at_in h6
  · simp only at hz
    subst hz
    simp only [Bool.and_eq_true] at h6
    refine ⟨k_at_in h6.1, fun hg => ?_⟩
    simp only at hg
    have h7 := h6.2
    rw [hg] at h7
    exact k_at_in h7
end KS
end
section
/-! every instruction, a step -/
section KS
variable {E : Ev} {h : Nat} {M : Md} {T : Option AV → Mem → Prop} {p : Program} {e : Env} {R : Room} {s : State} {mm : MethodId} {args : Array Value} {below : List Frame} {meth : Method} {c : Code} {cells slots : Nat} {Qf : State → Prop} {ad : Nat → Nat} {A : Nat → Prop}
theorem k_pc_of {b t : Nat} (h : (M.2.2.2.2.map (fun z => z.1))[b]? = some t) : k_pc M b = t := by
  unfold k_pc
  rw [List.getElem?_map] at h
  rw [List.getD_eq_getElem?_getD]
  cases hq : M.2.2.2.2[b]? with
  | none => rw [hq] at h; cases h
  | some q => rw [hq] at h; exact Option.some.inj h
theorem k_kV_tail {v : AV} {S : List AV} (h : ∀ w ∈ v :: S, kV w) : kV v ∧ ∀ w ∈ S, kV w := ⟨h v List.mem_cons_self, fun w hw => h w (List.mem_cons_of_mem _ hw)⟩
theorem k_kV_cons {v : AV} {S : List AV} (h1 : kV v) (h2 : ∀ w ∈ S, kV w) : ∀ w ∈ v :: S, kV w := by
  intro w hw
  rcases List.mem_cons.mp hw with rfl | hw
  · exact h1
  · exact h2 w hw
theorem k_sum_cat {S : List AV} (hV : ∀ v ∈ S, kV v) : ((S.map (rv ad)).map fun v => v.category).sum = (S.map k_cat).sum := by
  induction S with
  | nil => rfl
  | cons v S ih =>
    obtain ⟨h1, h2⟩ := k_kV_tail hV
    simp only [List.map_cons, List.sum_cons]
    rw [ih h2, kV_cat h1]
    match v, h1 with
    | .inl a, _ => rfl
    | .inr (.inl a), _ => rfl
/-- a call of a method with the receiver's class known -/
theorem k_stepV (hX : kX E h M T p e R s mm args below meth c cells slots Qf ad A) {pc j n na ci o : Nat} {rs : List (Option Nat)} {xs S' : List AV} {L : KL} {m : Mem} {Q : Option AV → Mem → Prop}
    (hd : decode (MT M.1).2.1 pc = .ok (.invokevirtual j, 3)) (hcl : (MT n).1.cls = CN ci)
    (hl : ∃ q ∈ k_LR, q.1 = M.2.1 ∧ q.2.1 = j ∧ q.2.2.1 = n ∧ q.2.2.2.1 + 1 = na) (hr : ∃ r ∈ k_MR, r.1 = n ∧ r.2.2.2.1 = 1 ∧ Nat.beq r.2.2.2.2.2 9999 = false)
    (hG : E.2.2.2.1[o]? = some (.inl (ci, rs))) (hlen : xs.length + 1 = na) (hsum : (S'.map k_cat).sum ≤ 8)
    (hC : kCall E h n (.inr (.inl o) :: xs) m Q) (kk : ∀ r m', Q r m' → kWW E M p e R s mm args below meth c cells slots Qf ad A (pc + 3) L (k_push r S') m') :
    kWW E M p e R s mm args below meth c cells slots Qf ad A pc L (xs.reverse ++ .inr (.inl o) :: S') m := by
  intro H locs ls hH hS hL hV
  obtain ⟨hx, hb, hml, hown, hts, hfr, hlo, hce, hsl, hK, hRo, hA, hLn, hret⟩ := hX
  obtain ⟨⟨qo, qi, qn, qa, qp⟩, hq, hz1, hz2, hz3, hz4⟩ := hl
  simp only at hz1 hz2 hz3 hz4
  subst hz1 hz2 hz3 hz4
  obtain ⟨r, hr, hrn, hr1, hr2⟩ := hr
  obtain ⟨w1, w2, w3, w4, -, w5⟩ := k_MR_at hr hrn
  obtain ⟨w6, w7⟩ := w5 hr1
  have w7 := w7 hr2
  have hlk := k_LR_ok _ hq
  simp only [k_lchk, Bool.and_eq_true, decide_eq_true_eq] at hlk
  obtain ⟨hl1, hl2, -⟩ := hlk
  have hV' : ∀ v ∈ (Sum.inr (Sum.inl o) : AV) :: xs, kV v := by
    intro v hv
    rcases List.mem_cons.mp hv with rfl | hv
    · exact trivial
    · exact hV v (List.mem_append_left _ (List.mem_reverse.mpr hv))
  have hVS : ∀ v ∈ S', kV v := fun v hv => hV v (List.mem_append_right _ (List.mem_cons_of_mem _ hv))
  have hAd : ∀ q, kAd E ad q → A q := by rintro q ⟨o, h1, rfl⟩; exact hA o h1
  have he := k_wl_at (cA := E.2.2.1) (ad := ad) (m := m) hG
  have hci : ∃ q, cls[ci]? = some q := by
    obtain ⟨r0, hr0, -⟩ := hH.1 o _ he
    exact ⟨r0, hr0⟩
  obtain ⟨cq, hcq⟩ := hci
  have hrec := va_recv hK hH.1 hcq he
  have hcn : cq.1 = CN ci := by
    obtain ⟨h12, -⟩ := k_cls hcq
    match ci, hcq, h12 with
    | 0, hcq, _ => cases hcq; rfl
    | 1, hcq, _ => cases hcq; rfl
    | 2, hcq, _ => cases hcq; rfl
    | 3, hcq, _ => cases hcq; rfl
    | 4, hcq, _ => cases hcq; rfl
    | 5, hcq, _ => cases hcq; rfl
    | 6, hcq, _ => cases hcq; rfl
    | 7, hcq, _ => cases hcq; rfl
    | 8, hcq, _ => cases hcq; rfl
    | 9, hcq, _ => cases hcq; rfl
    | 10, hcq, _ => cases hcq; rfl
    | 11, hcq, _ => cases hcq; rfl
    | 12, hcq, _ => cases hcq; rfl
  have hqa : xs.length = qa := by simpa using hlen
  have hcw : CallW R s args (CN M.2.1) (MT qn).1.cls qi (MT qn).1 (MT qn).2.1 (MT qn).2.2.1 (MT qn).2.2.2 (Cond.code (MT qn).1 (MT qn).2.1 (MT qn).2.2.1 (MT qn).2.2.2 :: TT) (k_rm h) 0 0 qa :=
    ⟨callB_of qa hts (k_goodTT w1) rfl rfl rfl (hts _ w2) (hts _ (k_at_in hl1)) ⟨w4.1, w4.2, hl2⟩ ⟨hfr, by show 8 + ((MT qn).2.2.1 + 11) + 40 * h ≤ R.locals; omega⟩, hts _ w6, hts _ w7⟩
  have hrun := va_runV (As := xs.map (rv ad)) (rest := S'.map (rv ad)) (g := F0 mm pc ls ((xs.reverse ++ .inr (.inl o) :: S').map (rv ad))) (H := H) (locs := locs) (cells := cells) (slots := slots) (b := ad o) (p := p) (l := E.1) (e := e) (below := below) (meth := meth) ⟨hx, hb, hml, hown, hts⟩ (hC h (Nat.le_refl h) Q (fun _ _ q => q) ad hV') hcw
    ⟨kPc_blind, by obtain ⟨cell, c1, c2, c3⟩ := hrec; exact ⟨cell, c1, c2, by rw [hcl, ← hcn]; exact c3⟩, fun U hU hW => ⟨by simp [rv], by rw [hU]; exact kHp_self hH, va_K.moved hW.alike hK, kRo_move hRo hS hU hW hAd, hLn⟩⟩
    rfl (by simpa using hqa) hL.1.1 (by simp [rv]) (lv_room (by rw [k_sum_cat hVS]; exact hsum)) hd ⟨hce, hsl⟩
  refine k_callW hrun hS hAd (fun r m' H1 locs1 hq hp hkv hS1 => ?_)
  have := kk r m' hq H1 locs1 ls (kHp_up hp hAd) hS1 hL (by
    cases r with
    | none => exact hVS
    | some v => exact k_kV_cons (hkv v rfl) hVS)
  cases r with
  | none => exact this
  | some v => exact this
/-- a call of a static method -/
theorem k_stepS (hX : kX E h M T p e R s mm args below meth c cells slots Qf ad A) {pc j n na : Nat} {xs S' : List AV} {L : KL} {m : Mem} {Q : Option AV → Mem → Prop}
    (hd : decode (MT M.1).2.1 pc = .ok (.invokestatic j, 3))
    (hl : ∃ q ∈ k_LR, q.1 = M.2.1 ∧ q.2.1 = j ∧ q.2.2.1 = n ∧ q.2.2.2.1 = na) (hr : ∃ r ∈ k_MR, r.1 = n ∧ r.2.2.2.1 = 0)
    (hlen : xs.length = na) (hsum : (S'.map k_cat).sum ≤ 8)
    (hC : kCall E h n xs m Q) (kk : ∀ r m', Q r m' → kWW E M p e R s mm args below meth c cells slots Qf ad A (pc + 3) L (k_push r S') m') :
    kWW E M p e R s mm args below meth c cells slots Qf ad A pc L (xs.reverse ++ S') m := by
  intro H locs ls hH hS hL hV
  obtain ⟨hx, hb, hml, hown, hts, hfr, hlo, hce, hsl, hK, hRo, hA, hLn, hret⟩ := hX
  obtain ⟨⟨qo, qi, qn, qa, qp⟩, hq, hz1, hz2, hz3, hz4⟩ := hl
  simp only at hz1 hz2 hz3 hz4
  subst hz1 hz2 hz3 hz4
  obtain ⟨r, hr, hrn, hr1⟩ := hr
  obtain ⟨w1, w2, w3, w4, w5, -⟩ := k_MR_at hr hrn
  have w6 := w5 hr1
  have hlk := k_LR_ok _ hq
  simp only [k_lchk, Bool.and_eq_true, decide_eq_true_eq] at hlk
  obtain ⟨hl1, hl2, -⟩ := hlk
  have hV' : ∀ v ∈ xs, kV v := fun v hv => hV v (List.mem_append_left _ (List.mem_reverse.mpr hv))
  have hVS : ∀ v ∈ S', kV v := fun v hv => hV v (List.mem_append_right _ hv)
  have hAd : ∀ q, kAd E ad q → A q := by rintro q ⟨o, h1, rfl⟩; exact hA o h1
  have hcw : CallB R s args (CN M.2.1) qi (MT qn).1 (MT qn).2.1 (MT qn).2.2.1 (MT qn).2.2.2 (Cond.code (MT qn).1 (MT qn).2.1 (MT qn).2.2.1 (MT qn).2.2.2 :: TT) (k_rm h) 0 0 qa ∧ (Cond.static (MT qn).1).before args s = true :=
    ⟨callB_of qa hts (k_goodTT w1) rfl rfl rfl (hts _ w2) (hts _ (k_at_in hl1)) ⟨w4.1, w4.2, hl2⟩ ⟨hfr, by show 8 + ((MT qn).2.2.1 + 11) + 40 * h ≤ R.locals; omega⟩, hts _ w6⟩
  have hrun := va_runS (As := xs.map (rv ad)) (rest := S'.map (rv ad)) (g := F0 mm pc ls ((xs.reverse ++ S').map (rv ad))) (H := H) (locs := locs) (cells := cells) (slots := slots) (p := p) (l := E.1) (e := e) (below := below) (meth := meth) ⟨hx, hb, hml, hown, hts⟩ (hC h (Nat.le_refl h) Q (fun _ _ q => q) ad hV') hcw
    ⟨kPc_blind, fun U hU hW => ⟨rfl, by rw [hU]; exact kHp_self hH, va_K.moved hW.alike hK, kRo_move hRo hS hU hW hAd, hLn⟩⟩
    rfl (by simpa using hlen) hL.1.1 (by simp) (lv_room (by rw [k_sum_cat hVS]; exact hsum)) hd ⟨hce, hsl⟩
  refine k_callW hrun hS hAd (fun r m' H1 locs1 hq hp hkv hS1 => ?_)
  have := kk r m' hq H1 locs1 ls (kHp_up hp hAd) hS1 hL (by
    cases r with
    | none => exact hVS
    | some v => exact k_kV_cons (hkv v rfl) hVS)
  cases r with
  | none => exact this
  | some v => exact this
end KS
end
section
/-! fields and arrays, a step -/
section KS
variable {E : Ev} {h : Nat} {M : Md} {T : Option AV → Mem → Prop} {p : Program} {e : Env} {R : Room} {s : State} {mm : MethodId} {args : Array Value} {below : List Frame} {meth : Method} {c : Code} {cells slots : Nat} {Qf : State → Prop} {ad : Nat → Nat} {A : Nat → Prop}
theorem k_FR_at {o i ci k t : Nat} (hl : ∃ q ∈ k_FR, q.1 = o ∧ q.2.1 = i ∧ q.2.2.1 = ci ∧ q.2.2.2.1 = k ∧ q.2.2.2.2.1 = t) : ci ≤ 12 ∧ k < k_nf ci ∧ k_tc (k_ty ci k) = t ∧ Cond.fieldLink (CN o) i (k_TX ci k).1 (k_TX ci k).2.1 (k_TX ci k).2.2.1 ∈ TT := by
  obtain ⟨⟨a, b, c, d, f, g⟩, hq, hz1, hz2, hz3, hz4, hz5⟩ := hl
  simp only at hz1 hz2 hz3 hz4 hz5
  subst hz1 hz2 hz3 hz4 hz5
  have := k_FR_ok _ hq
  simp only [k_fchk, Bool.and_eq_true] at this
  exact ⟨Nat.le_of_ble_eq_true this.1, Nat.le_of_ble_eq_true this.2.1, Nat.eq_of_beq_eq_true this.2.2.1, k_at_in this.2.2.2⟩
theorem k_stepGet (hX : kX E h M T p e R s mm args below meth c cells slots Qf ad A) {pc i ci k t o : Nat} {rs : List (Option Nat)} {v : AV} {S : List AV} {L : KL} {m : Mem}
    (hd : decode (MT M.1).2.1 pc = .ok (.getfield i, 3)) (hl : ∃ q ∈ k_FR, q.1 = M.2.1 ∧ q.2.1 = i ∧ q.2.2.1 = ci ∧ q.2.2.2.1 = k ∧ q.2.2.2.2.1 = t)
    (hG : E.2.2.2.1[o]? = some (.inl (ci, rs))) (hv : (t = 1 ∧ ∃ q, rs[k]? = some (some q) ∧ v = .inr (.inl q)) ∨ (t ≠ 1 ∧ v = .inl (fld m o k)))
    (kk : kWW E M p e R s mm args below meth c cells slots Qf ad A (pc + 3) L (v :: S) m) : kWW E M p e R s mm args below meth c cells slots Qf ad A pc L (.inr (.inl o) :: S) m := by
  intro H locs ls hH hS hL hV
  obtain ⟨hx, hb, hml, hown, hts, hfr, hlo, hce, hsl, hK, hRo, hA, hLn, hret⟩ := hX
  obtain ⟨h12, hkn, htc, hlk⟩ := k_FR_at hl
  obtain ⟨q, hq⟩ := k_cls_at h12
  obtain ⟨-, hqn, hqt, hqw, hqp, hqd⟩ := k_cls hq
  obtain ⟨C0, T0, N0⟩ := q
  simp only at hqn hqt hqw hqp hqd
  subst hqn hqt
  have he := k_wl_at (cA := E.2.2.1) (ad := ad) (m := m) hG
  have hval : ((List.range (k_nf ci)).map (k_fv ad m o ci rs))[k]? = some (rv ad v) := by
    rw [List.getElem?_map, List.getElem?_range hkn]
    show some (k_fv ad m o ci rs k) = _
    rcases hv with ⟨rfl, q, h1, rfl⟩ | ⟨h1, rfl⟩
    · simp [k_fv, htc, h1, rv]
    · simp [k_fv, htc, h1, rv]
  have hVv : kV v := by
    rcases hv with ⟨rfl, q, h1, rfl⟩ | ⟨h1, rfl⟩
    · exact trivial
    · exact hH.2.2 o (k : Int)
  obtain ⟨-, hV2⟩ := k_kV_tail hV
  exact va_get hx hb hts hqw hown hK hH.1 o he hq k hkn (hts _ hlk) (fun x h => h) hval hd (kk H locs ls hH hS hL (k_kV_cons hVv hV2))
theorem k_stepPut (hX : kX E h M T p e R s mm args below meth c cells slots Qf ad A) {pc i ci k t o : Nat} {rs : List (Option Nat)} {v : Int} {S : List AV} {L : KL} {m : Mem}
    (hd : decode (MT M.1).2.1 pc = .ok (.putfield i, 3)) (hl : ∃ q ∈ k_FR, q.1 = M.2.1 ∧ q.2.1 = i ∧ q.2.2.1 = ci ∧ q.2.2.2.1 = k ∧ q.2.2.2.2.1 = t) (hfin : (k_TX ci k).2.2.2 = false)
    (hG : E.2.2.2.1[o]? = some (.inl (ci, rs))) (ht : t = 0 ∨ (t = 2 ∧ (v = 0 ∨ v = 1)))
    (kk : kWW E M p e R s mm args below meth c cells slots Qf ad A (pc + 3) L S (fset m o k v)) : kWW E M p e R s mm args below meth c cells slots Qf ad A pc L (.inl v :: .inr (.inl o) :: S) m := by
  intro H locs ls hH hS hL hV
  obtain ⟨hx, hb, hml, hown, hts, hfr, hlo, hce, hsl, hK, hRo, hA, hLn, hret⟩ := hX
  obtain ⟨h12, hkn, htc, hlk⟩ := k_FR_at hl
  obtain ⟨q, hq⟩ := k_cls_at h12
  obtain ⟨-, hqn, hqt, hqw, hqp, hqd⟩ := k_cls hq
  obtain ⟨C0, T0, N0⟩ := q
  simp only at hqn hqt hqw hqp hqd
  subst hqn hqt
  have he := k_wl_at (cA := E.2.2.1) (ad := ad) (m := m) hG
  obtain ⟨hVv, hV2⟩ := k_kV_tail hV
  obtain ⟨-, hV3⟩ := k_kV_tail hV2
  have htn : k_tc (k_ty ci k) ≠ 1 := by rw [htc]; rcases ht with rfl | ⟨rfl, -⟩ <;> decide
  have hnar : narrow (k_ty ci k) (.int (Int32.ofInt v)) = .int (Int32.ofInt v) ∧ fits (k_ty ci k) (.int (Int32.ofInt v)) = true := by
    rcases ht with rfl | ⟨rfl, hv⟩
    · rw [k_tc_int htc]; exact ⟨rfl, rfl⟩
    · rw [k_tc_bool htc]
      rcases hv with rfl | rfl <;> exact ⟨by decide, by decide⟩
  refine va_put hx hb hts hqw (k_ty ci) hqp hqd hown hK hH.1 hH.2.1 hS o he hq k hkn (hts _ hlk) (fun x h => h) hfin (hqp k hkn) hnar.1 hnar.2 (by simpa using hkn) hd (fun H1 locs1 hP hD hS1 => ?_)
  have hw : k_wl E.2.2.1 ad (fset m o k v) E.2.2.2.1 = (k_wl E.2.2.1 ad m E.2.2.2.1).set o (ad o, .inr (ci, ((List.range (k_nf ci)).map (k_fv ad m o ci rs)).set k (.int (Int32.ofInt v)))) := by
    rw [k_wl_upd (m := m) (m' := fset m o k v) hG (fun p hp => k_mset_ne hp), k_ent_put htn]
  exact kk H1 locs1 ls ⟨by rw [hw]; exact hP, by rw [hw]; exact hD, k_mset_in hH.2.2 hVv⟩ hS1 hL hV3
theorem k_ent_arr {cA : Nat → ClassId} {m : Mem} {o ty n : Nat} (hty : ty ≠ 2) : k_ent cA ad m o (.inr (ty, n)) = (ad o, .inl (cA ty, n, .inl (fun i => Int32.ofInt (m o (i : Int))))) := by
  unfold k_ent
  simp [hty]
theorem k_ent_ast {cA : Nat → ClassId} {m : Mem} {o ty n : Nat} {i v : Int} (hi : inR i) (h0 : 0 ≤ i) (hty : ty ≠ 2) : k_ent cA ad (mset m o i v) o (.inr (ty, n)) = (ad o, .inl (cA ty, n, .inl (upd (fun i => Int32.ofInt (m o (i : Int))) (Int32.ofInt i).toNatClampNeg (Int32.ofInt v)))) := by
  rw [k_ent_arr hty]
  congr 5
  funext j
  rw [k_clamp hi]
  unfold upd
  rw [k_mset_at]
  by_cases hj : j = i.toNat
  · rw [if_pos hj, if_pos (by omega)]
  · rw [if_neg hj, if_neg (by omega)]
/-- a read of an array of ints, of booleans (in the world or outside it) or of chars -/
theorem k_stepRead (hX : kX E h M T p e R s mm args below meth c cells slots Qf ad A) {pc o n ty : Nat} {f : Int → Int} {i : Int} {S : List AV} {L : KL} {m : Mem} {ins : Instr}
    (hd : decode (MT M.1).2.1 pc = .ok (ins, 1)) (hins : (ins = .iaload ∧ ty = 0) ∨ (ins = .baload ∧ ty = 1) ∨ (ins = .caload ∧ ty = 3))
    (hR : (∃ n', E.2.2.2.1[o]? = some (.inr (ty, n')) ∧ n' = n ∧ f = m o) ∨ ∃ j, o = 1000 + j ∧ E.2.2.2.2[j]? = some (ty, n, f)) (hi : 0 ≤ i ∧ i < (n : Int))
    (kk : kWW E M p e R s mm args below meth c cells slots Qf ad A (pc + 1) L (.inl (f i) :: S) m) : kWW E M p e R s mm args below meth c cells slots Qf ad A pc L (.inl i :: .inr (.inl o) :: S) m := by
  intro H locs ls hH hS hL hV
  obtain ⟨hx, hb, hml, hown, hts, hfr, hlo, hce, hsl, hK, hRo, hA, hLn, hret⟩ := hX
  obtain ⟨hVi, hV2⟩ := k_kV_tail hV
  obtain ⟨-, hV3⟩ := k_kV_tail hV2
  have hVi : inR i := hVi
  have hin := k_vpin hVi hi.1 hi.2
  rcases hR with ⟨n', hG, rfl, rfl⟩ | ⟨j, rfl, hj⟩
  · have hty : ty ≠ 2 := by rcases hins with ⟨-, rfl⟩ | ⟨-, rfl⟩ | ⟨-, rfl⟩ <;> decide
    have he := k_wl_at (cA := E.2.2.1) (ad := ad) (m := m) hG
    rw [k_ent_arr hty] at he
    have hk := kk H locs ls hH hS hL (k_kV_cons (hH.2.2 o i) hV3)
    rcases hins with ⟨rfl, rfl⟩ | ⟨rfl, rfl⟩ | ⟨rfl, rfl⟩
    · exact va_iald hx hb hK hH.1 o 0 he rfl hin hd (by rw [k_clamp hVi, Int.toNat_of_nonneg hi.1]; exact hk)
    · exact va_zald hx hb hK hH.1 o 1 he rfl hin hd (by rw [k_clamp hVi, Int.toNat_of_nonneg hi.1]; exact hk)
    · exact absurd (hLn o 3 n' hG).2 (by decide)
  · obtain ⟨h1, h2, h3⟩ := hRo.2.1 j _ hj
    have hk := kk H locs ls hH hS hL (k_kV_cons (h2 i) hV3)
    rcases hins with ⟨rfl, rfl⟩ | ⟨rfl, rfl⟩ | ⟨rfl, rfl⟩
    · rcases h1 with ⟨-, h1⟩ | ⟨h1, -⟩
      · exact va_ti hx hb h1 hS hin (by rw [k_clamp hVi, Int.toNat_of_nonneg hi.1]; rfl) hd hk
      · cases h1
    · rcases h1 with ⟨h1, -⟩ | ⟨h1, -⟩ <;> cases h1
    · rcases h1 with ⟨h1, -⟩ | ⟨-, h1⟩
      · cases h1
      · exact va_tc hx hb h1 hS hin (by rw [k_clamp hVi, Int.toNat_of_nonneg hi.1]; rfl) hd hk
/-- a write into an array of ints or of booleans -/
theorem k_stepWrite (hX : kX E h M T p e R s mm args below meth c cells slots Qf ad A) {pc o n ty : Nat} {i v : Int} {S : List AV} {L : KL} {m : Mem} {ins : Instr}
    (hd : decode (MT M.1).2.1 pc = .ok (ins, 1)) (hins : (ins = .iastore ∧ ty = 0) ∨ (ins = .bastore ∧ ty = 1 ∧ (v = 0 ∨ v = 1)))
    (hG : E.2.2.2.1[o]? = some (.inr (ty, n))) (hi : 0 ≤ i ∧ i < (n : Int))
    (kk : kWW E M p e R s mm args below meth c cells slots Qf ad A (pc + 1) L S (mset m o i v)) : kWW E M p e R s mm args below meth c cells slots Qf ad A pc L (.inl v :: .inl i :: .inr (.inl o) :: S) m := by
  intro H locs ls hH hS hL hV
  obtain ⟨hx, hb, hml, hown, hts, hfr, hlo, hce, hsl, hK, hRo, hA, hLn, hret⟩ := hX
  obtain ⟨hVv, hV2⟩ := k_kV_tail hV
  obtain ⟨hVi, hV3⟩ := k_kV_tail hV2
  obtain ⟨-, hV4⟩ := k_kV_tail hV3
  have hVi : inR i := hVi
  have hin := k_vpin hVi hi.1 hi.2
  have hty : ty ≠ 2 := by rcases hins with ⟨-, rfl⟩ | ⟨-, rfl, -⟩ <;> decide
  have he := k_wl_at (cA := E.2.2.1) (ad := ad) (m := m) hG
  rw [k_ent_arr hty] at he
  have hw : k_wl E.2.2.1 ad (mset m o i v) E.2.2.2.1 = (k_wl E.2.2.1 ad m E.2.2.2.1).set o (ad o, .inl (E.2.2.1 ty, n, .inl (upd (fun i => Int32.ofInt (m o (i : Int))) (Int32.ofInt i).toNatClampNeg (Int32.ofInt v)))) := by
    rw [k_wl_upd hG (fun p hp => k_mset_ne hp), k_ent_ast hVi hi.1 hty]
  rcases hins with ⟨rfl, rfl⟩ | ⟨rfl, rfl, hv⟩
  · exact va_iast hx hb hK hH.1 hH.2.1 hS o 0 he rfl hin hd (fun H1 locs1 hP hD hS1 => kk H1 locs1 ls ⟨by rw [hw]; exact hP, by rw [hw]; exact hD, k_mset_in hH.2.2 hVv⟩ hS1 hL hV4)
  · have hnar : vp_nar .boolean (Int32.ofInt v) = Int32.ofInt v := by rcases hv with rfl | rfl <;> decide
    exact va_zast hx hb hK hH.1 hH.2.1 hS o 1 he rfl hin hd (fun H1 locs1 hP hD hS1 => kk H1 locs1 ls ⟨by rw [hw]; rw [hnar] at hP; exact hP, by rw [hw]; rw [hnar] at hD; exact hD, k_mset_in hH.2.2 hVv⟩ hS1 hL hV4)
theorem k_stepLen (hX : kX E h M T p e R s mm args below meth c cells slots Qf ad A) {pc o n : Nat} {S : List AV} {L : KL} {m : Mem}
    (hd : decode (MT M.1).2.1 pc = .ok (.arraylength, 1)) (hR : (∃ ty, E.2.2.2.1[o]? = some (.inr (ty, n))) ∨ ∃ j ty f, o = 1000 + j ∧ E.2.2.2.2[j]? = some (ty, n, f))
    (kk : kWW E M p e R s mm args below meth c cells slots Qf ad A (pc + 1) L (.inl (n : Int) :: S) m) : kWW E M p e R s mm args below meth c cells slots Qf ad A pc L (.inr (.inl o) :: S) m := by
  intro H locs ls hH hS hL hV
  obtain ⟨hx, hb, hml, hown, hts, hfr, hlo, hce, hsl, hK, hRo, hA, hLn, hret⟩ := hX
  obtain ⟨-, hV3⟩ := k_kV_tail hV
  rcases hR with ⟨ty, hG⟩ | ⟨j, ty, f, rfl, hj⟩
  · obtain ⟨hn, ht⟩ := hLn o ty n hG
    have hk := kk H locs ls hH hS hL (k_kV_cons (show inR (n : Int) by constructor <;> omega) hV3)
    have he := k_wl_at (cA := E.2.2.1) (ad := ad) (m := m) hG
    unfold k_ent at he
    match ty, ht, he with
    | 0, _, he => exact va_alen hx hb hK hH.1 o 0 he (ty := .int) rfl (k_ofNat n) hd hk
    | 1, _, he => exact va_alen hx hb hK hH.1 o 1 he (ty := .boolean) rfl (k_ofNat n) hd hk
    | 2, _, he => exact va_alen hx hb hK hH.1 o 2 he (ty := .long) rfl (k_ofNat n) hd hk
  · obtain ⟨h1, h2, h3⟩ := hRo.2.1 j _ hj
    have hk := kk H locs ls hH hS hL (k_kV_cons (show inR (n : Int) by constructor <;> simp only at h3 <;> omega) hV3)
    rcases h1 with ⟨-, h1⟩ | ⟨-, h1⟩
    · exact va_tlen hx hb h1 hS (k_ofNat n) hd hk
    · exact va_tlen hx hb h1 hS (k_ofNat n) hd hk
theorem k_stepStatic (hX : kX E h M T p e R s mm args below meth c cells slots Qf ad A) {pc i j : Nat} {S : List AV} {L : KL} {m : Mem}
    (hd : decode (MT M.1).2.1 pc = .ok (.getstatic i, 3)) (hl : ∃ q ∈ k_SR, q.1 = M.2.1 ∧ q.2.1 = i ∧ q.2.2.1 = j)
    (kk : kWW E M p e R s mm args below meth c cells slots Qf ad A (pc + 3) L (.inr (.inl (1000 + j)) :: S) m) : kWW E M p e R s mm args below meth c cells slots Qf ad A pc L S m := by
  intro H locs ls hH hS hL hV
  obtain ⟨hx, hb, hml, hown, hts, hfr, hlo, hce, hsl, hK, hRo, hA, hLn, hret⟩ := hX
  obtain ⟨⟨qo, qi, qj, qn, qp⟩, hq, hz1, hz2, hz3⟩ := hl
  simp only at hz1 hz2 hz3
  subst hz1 hz2 hz3
  have hk := kk H locs ls hH hS hL (k_kV_cons trivial hV)
  have hs := k_SR_ok _ hq
  simp only [k_schk] at hs
  cases hz : k_SN[qj]? with
  | none => rw [hz] at hs; cases hs
  | some z =>
    rw [hz] at hs
    have hZ := hRo.1 qj z hz
    match qn, hs with
    | 0, hs => exact va_gets hx hb hZ hS hown (hts _ (k_at_in hs)) (fun x h => h) hd hk
    | n + 1, hs =>
      have hw := hRo.2.2 _ (List.mem_of_getElem? (of_decide_eq_true hs))
      exact va_getsN hx hb hZ hS hown (va_Nw.use rfl hw) (fun x h => h) hd hk
theorem k_stepCopy (hX : kX E h M T p e R s mm args below meth c cells slots Qf ad A) {pc i a d na nd : Nat} {n dp sp : Int} {S : List AV} {L : KL} {m : Mem}
    (hdc : decode (MT M.1).2.1 pc = .ok (.invokestatic i, 3)) (hl : ∃ q ∈ k_CR, q.1 = M.2.1 ∧ q.2.1 = i) (hGa : E.2.2.2.1[a]? = some (.inr (0, na))) (hGd : E.2.2.2.1[d]? = some (.inr (0, nd)))
    (hz : (0 ≤ n ∧ 0 ≤ dp ∧ 0 ≤ sp) ∧ sp + n ≤ (na : Int) ∧ dp + n ≤ (nd : Int)) (hsum : (S.map k_cat).sum ≤ 8)
    (kk : kWW E M p e R s mm args below meth c cells slots Qf ad A (pc + 3) L S (mcpy m a sp d dp n)) : kWW E M p e R s mm args below meth c cells slots Qf ad A pc L (.inl n :: .inl dp :: .inr (.inl d) :: .inl sp :: .inr (.inl a) :: S) m := by
  intro H locs ls hH hS hL hV
  obtain ⟨hx, hb, hml, hown, hts, hfr, hlo, hce, hsl, hK, hRo, hA, hLn, hret⟩ := hX
  obtain ⟨⟨qo, qi, qp⟩, hq, hz1, hz2⟩ := hl
  simp only at hz1 hz2
  subst hz1 hz2
  have hs := k_CR_ok _ hq
  simp only [k_cchk] at hs
  obtain ⟨hVn, hV⟩ := k_kV_tail hV
  obtain ⟨hVd, hV⟩ := k_kV_tail hV
  obtain ⟨-, hV⟩ := k_kV_tail hV
  obtain ⟨hVs, hV⟩ := k_kV_tail hV
  obtain ⟨-, hV⟩ := k_kV_tail hV
  have hVn : inR n := hVn
  have hVd : inR dp := hVd
  have hVs : inR sp := hVs
  have hea := k_wl_at (cA := E.2.2.1) (ad := ad) (m := m) hGa
  have hed := k_wl_at (cA := E.2.2.1) (ad := ad) (m := m) hGd
  rw [k_ent_arr (by decide)] at hea hed
  have n1 : ¬ Int32.ofInt sp < 0 := by rw [← k_zero, k_lt hVs k_inR0]; omega
  have n2 : ¬ Int32.ofInt dp < 0 := by rw [← k_zero, k_lt hVd k_inR0]; omega
  have n3 : ¬ Int32.ofInt n < 0 := by rw [← k_zero, k_lt hVn k_inR0]; omega
  have hw : k_wl E.2.2.1 ad (mcpy m a sp d dp n) E.2.2.2.1 = (k_wl E.2.2.1 ad m E.2.2.2.1).set d (ad d, .inl (E.2.2.1 0, nd, .inl (va_cpy (fun i => Int32.ofInt (m a (i : Int))) (fun i => Int32.ofInt (m d (i : Int))) (Int32.ofInt sp).toNatClampNeg (Int32.ofInt dp).toNatClampNeg (Int32.ofInt n).toNatClampNeg))) := by
    rw [k_wl_upd (m := m) hGd (fun p hp => by simp [mcpy, hp]), k_ent_arr (by decide)]
    congr 6
    funext j
    rw [k_clamp hVs, k_clamp hVd, k_clamp hVn]
    unfold va_cpy mcpy
    simp only [if_true]
    by_cases hj : dp.toNat ≤ j ∧ j < dp.toNat + n.toNat
    · rw [if_pos hj, if_pos (by omega), show ((sp.toNat + (j - dp.toNat) : Nat) : Int) = sp + ((j : Int) - dp) by omega]
    · rw [if_neg hj, if_neg (by omega)]
  have hmr : ∀ o i, inR (mcpy m a sp d dp n o i) := by
    intro o i
    unfold mcpy
    split
    · show inR (if _ then _ else _)
      split
      · exact hH.2.2 _ _
      · exact hH.2.2 _ _
    · exact hH.2.2 _ _
  refine va_copyi hx hb (by rw [hml]; exact hL.1.1.symm) hown (hts _ (k_at_in hs)) (hts _ k_copy_ok.1) (hts _ k_copy_ok.2.1) (hts _ k_copy_ok.2.2) hK hH.1 hH.2.1 hS a d 0 0 hea hed (ty := .int) rfl rfl rfl n1 n2 n3 (by rw [k_clamp hVs, k_clamp hVn]; omega) (by rw [k_clamp hVd, k_clamp hVn]; omega) (fun _ _ => rfl) (by omega) ?_ hdc (fun H1 locs1 hP hD hS1 => kk H1 locs1 ls ⟨by rw [hw]; exact hP, by rw [hw]; exact hD, hmr⟩ hS1 hL hV)
  rw [k_sum_cat hV]
  have : nativeFrameWords "java/lang/System" "arraycopy" 5 = 7 := by decide
  omega
end KS
end
section
/-! the machine's code as data, run: soundness of k_exec, k_blk, k_go, and a method's contract out of its body -/
section KS
variable {E : Ev} {h : Nat} {M : Md} {T : Option AV → Mem → Prop} {p : Program} {e : Env} {R : Room} {s : State} {mm : MethodId} {args : Array Value} {below : List Frame} {meth : Method} {c : Code} {cells slots : Nat} {Qf : State → Prop} {ad : Nat → Nat} {A : Nat → Prop}
theorem k_fr {j b ci k t : Nat} (h : k_FR.any (fun q => Nat.beq q.1 j && (Nat.beq q.2.1 b && (Nat.beq q.2.2.1 ci && (Nat.beq q.2.2.2.1 k && Nat.beq q.2.2.2.2.1 t)))) = true) : ∃ q ∈ k_FR, q.1 = j ∧ q.2.1 = b ∧ q.2.2.1 = ci ∧ q.2.2.2.1 = k ∧ q.2.2.2.2.1 = t := by
  obtain ⟨q, h1, h2⟩ := k_any h
  simp only [Bool.and_eq_true] at h2
  exact ⟨q, h1, Nat.eq_of_beq_eq_true h2.1, Nat.eq_of_beq_eq_true h2.2.1, Nat.eq_of_beq_eq_true h2.2.2.1, Nat.eq_of_beq_eq_true h2.2.2.2.1, Nat.eq_of_beq_eq_true h2.2.2.2.2⟩
theorem k_frp {j b ci k t : Nat} (h : k_FR.any (fun q => Nat.beq q.1 j && (Nat.beq q.2.1 b && (Nat.beq q.2.2.1 ci && (Nat.beq q.2.2.2.1 k && (Nat.beq q.2.2.2.2.1 t && !(k_TX ci k).2.2.2))))) = true) : (∃ q ∈ k_FR, q.1 = j ∧ q.2.1 = b ∧ q.2.2.1 = ci ∧ q.2.2.2.1 = k ∧ q.2.2.2.2.1 = t) ∧ (k_TX ci k).2.2.2 = false := by
  obtain ⟨q, h1, h2⟩ := k_any h
  simp only [Bool.and_eq_true] at h2
  exact ⟨⟨q, h1, Nat.eq_of_beq_eq_true h2.1, Nat.eq_of_beq_eq_true h2.2.1, Nat.eq_of_beq_eq_true h2.2.2.1, Nat.eq_of_beq_eq_true h2.2.2.2.1, Nat.eq_of_beq_eq_true h2.2.2.2.2.1⟩, by simpa using h2.2.2.2.2.2⟩
theorem k_cases_spec {v : Int} {K : Nat → Prop} {pcs : List Nat} {pc : Nat} : ∀ {bs : List Nat} {lo : Int} {fs : List Int}, k_cases v lo bs K → k_tgs pcs pc bs fs = true → lo ≤ v → v < lo + fs.length → ∃ b f, fs[(v - lo).toNat]? = some f ∧ k_tg pcs b pc f = true ∧ K b
  | [], lo, [], h, ht, h1, h2 => by simp at h2; omega
  | [], lo, f :: fs, h, ht, h1, h2 => by simp [k_tgs] at ht
  | b :: bs, lo, [], h, ht, h1, h2 => by simp [k_tgs] at ht
  | b :: bs, lo, f :: fs, h, ht, h1, h2 => by
    simp only [k_tgs, Bool.and_eq_true] at ht
    by_cases hv : v = lo
    · refine ⟨b, f, ?_, ht.1, h.1 hv⟩
      subst hv
      simp
    · obtain ⟨b', f', g1, g2, g3⟩ := k_cases_spec (bs := bs) (lo := lo + 1) (fs := fs) h.2 ht.2 (by omega) (by simp only [List.length_cons] at h2; omega)
      refine ⟨b', f', ?_, g2, g3⟩
      have : (v - lo).toNat = (v - (lo + 1)).toNat + 1 := by omega
      rw [this, List.getElem?_cons_succ]
      exact g1
set_option maxHeartbeats 4000000 in
theorem k_sound (hX : kX E h M T p e R s mm args below meth c cells slots Qf ad A) {J : Nat → KL → List AV → Mem → Prop}
    (hJ : ∀ b L S m, J b L S m → kWW E M p e R s mm args below meth c cells slots Qf ad A (k_pc M b) L S m) :
    ∀ (is : List AI) (pc : Nat) (L : KL) (S : List AV) (m : Mem), k_okB M.2.1 (M.2.2.2.2.map (fun z => z.1)) (MT M.1).2.1 pc is = true → k_exec E.2.2.2.1 E.2.2.2.2 J (kCall E h) T is L S m → kWW E M p e R s mm args below meth c cells slots Qf ad A pc L S m := by
  intro is
  induction is with
  | nil => intro pc L S m _ hE; exact hE.elim
  | cons q r ih =>
    obtain ⟨i, len, x⟩ := q
    intro pc L S m hok hE
    simp only [k_okB, Bool.and_eq_true] at hok
    obtain ⟨hI, hr⟩ := hok
    obtain ⟨hx, hb, hml, hown, hts, hfr, hlo, hce, hsl, hK, hRo, hA, hLn, hret⟩ := id hX
    have hjmp : ∀ {b : Nat} {off : Int} {t : Nat}, (M.2.2.2.2.map (fun z => z.1))[b]? = some t → k_pc M b = t := fun h => k_pc_of h
    cases i
    case nop =>
      simp only [k_okI, Bool.and_eq_true] at hI
      obtain ⟨b, r', rfl, hE1⟩ := k_1_spec hE
      obtain ⟨t, h1, h2⟩ := k_tg_spec hI.2
      have := hJ b L S m hE1
      rw [k_pc_of h1] at this
      have ht : t = pc := by omega
      rw [ht] at this
      exact this
    case iconst n =>
      simp only [k_okI, Bool.and_eq_true, decide_eq_true_eq] at hI
      obtain ⟨hd, rfl⟩ := k_dc_spec hI.1
      intro H locs ls hH hS hL hV
      exact lv_iconst hx hb hd rfl (ih _ _ _ _ hr hE H locs ls hH hS hL (k_kV_cons hI.2 hV))
    case bipush n =>
      simp only [k_okI, Bool.and_eq_true, decide_eq_true_eq] at hI
      obtain ⟨hd, rfl⟩ := k_dc_spec hI.1
      intro H locs ls hH hS hL hV
      exact lv_bipush hx hb hd hI.2.2 (ih _ _ _ _ hr hE H locs ls hH hS hL (k_kV_cons hI.2.1 hV))
    case sipush n =>
      simp only [k_okI, Bool.and_eq_true, decide_eq_true_eq] at hI
      obtain ⟨hd, rfl⟩ := k_dc_spec hI.1
      intro H locs ls hH hS hL hV
      exact lv_sipush hx hb hd hI.2.2 (ih _ _ _ _ hr hE H locs ls hH hS hL (k_kV_cons hI.2.1 hV))
    case ldc j =>
      obtain ⟨v, r', rfl, hE1⟩ := k_1_spec hE
      simp only [k_okI, Bool.and_eq_true] at hI
      obtain ⟨hd, rfl⟩ := k_dc_spec hI.1
      obtain ⟨⟨qo, qi, qv, qp⟩, hq, hz⟩ := k_any hI.2
      simp only [Bool.and_eq_true] at hz
      have e1 := Nat.eq_of_beq_eq_true hz.1
      have e2 := Nat.eq_of_beq_eq_true hz.2.1
      have e3 := Nat.eq_of_beq_eq_true hz.2.2
      subst e1 e2 e3
      have hk := k_KR_ok _ hq
      simp only [k_kchk, Bool.and_eq_true] at hk
      have hb2 := Nat.le_of_ble_eq_true hk.2
      intro H locs ls hH hS hL hV
      exact lv_ldc hx hb hown (hts _ (k_at_in hk.1)) hd (ih _ _ _ _ hr hE1 H locs ls hH hS hL (k_kV_cons (show inR (qv : Int) by constructor <;> omega) hV))
    case ldc_w j =>
      obtain ⟨v, r', rfl, hE1⟩ := k_1_spec hE
      simp only [k_okI, Bool.and_eq_true] at hI
      obtain ⟨hd, rfl⟩ := k_dc_spec hI.1
      obtain ⟨⟨qo, qi, qv, qp⟩, hq, hz⟩ := k_any hI.2
      simp only [Bool.and_eq_true] at hz
      have e1 := Nat.eq_of_beq_eq_true hz.1
      have e2 := Nat.eq_of_beq_eq_true hz.2.1
      have e3 := Nat.eq_of_beq_eq_true hz.2.2
      subst e1 e2 e3
      have hk := k_KR_ok _ hq
      simp only [k_kchk, Bool.and_eq_true] at hk
      have hb2 := Nat.le_of_ble_eq_true hk.2
      intro H locs ls hH hS hL hV
      exact lv_ldcw hx hb hown (hts _ (k_at_in hk.1)) hd (ih _ _ _ _ hr hE1 H locs ls hH hS hL (k_kV_cons (show inR (qv : Int) by constructor <;> omega) hV))
    case iload_n k =>
      obtain ⟨hd, rfl⟩ := k_dc_spec hI
      obtain ⟨v, h1, hE1⟩ := k_get_spec hE
      obtain ⟨a, rfl, hE2⟩ := k_int_spec hE1
      intro H locs ls hH hS hL hV
      obtain ⟨g1, g2⟩ := kLs_get hL h1
      exact lv_iload_n hx hb hd rfl g1 (ih _ _ _ _ hr hE2 H locs ls hH hS hL (k_kV_cons g2 hV))
    case iload k =>
      obtain ⟨hd, rfl⟩ := k_dc_spec hI
      obtain ⟨v, h1, hE1⟩ := k_get_spec hE
      obtain ⟨a, rfl, hE2⟩ := k_int_spec hE1
      intro H locs ls hH hS hL hV
      obtain ⟨g1, g2⟩ := kLs_get hL h1
      exact lv_iload hx hb hd g1 (ih _ _ _ _ hr hE2 H locs ls hH hS hL (k_kV_cons g2 hV))
    case aload_n k =>
      obtain ⟨hd, rfl⟩ := k_dc_spec hI
      obtain ⟨v, h1, hE1⟩ := k_get_spec hE
      obtain ⟨a, rfl, hE2⟩ := k_ref_spec hE1
      intro H locs ls hH hS hL hV
      obtain ⟨g1, g2⟩ := kLs_get hL h1
      exact lv_aload_n hx hb hd rfl g1 (ih _ _ _ _ hr hE2 H locs ls hH hS hL (k_kV_cons g2 hV))
    case aload k =>
      obtain ⟨hd, rfl⟩ := k_dc_spec hI
      obtain ⟨v, h1, hE1⟩ := k_get_spec hE
      obtain ⟨a, rfl, hE2⟩ := k_ref_spec hE1
      intro H locs ls hH hS hL hV
      obtain ⟨g1, g2⟩ := kLs_get hL h1
      exact lv_aload hx hb hd g1 (ih _ _ _ _ hr hE2 H locs ls hH hS hL (k_kV_cons g2 hV))
    case istore_n k =>
      obtain ⟨hd, rfl⟩ := k_dc_spec hI
      obtain ⟨a, S', rfl, hE1⟩ := k_un_spec hE
      obtain ⟨h1, hE2⟩ := k_set_spec hE1
      intro H locs ls hH hS hL hV
      obtain ⟨v1, v2⟩ := k_kV_tail hV
      exact lv_istore_n hx hb hd rfl hL.1 (by rw [← hL.2.1]; exact h1) rfl (fun ls' hl' => ih _ _ _ _ hr hE2 H locs ls' hH hS (kLs_set hL h1 v1 hl') v2)
    case istore k =>
      obtain ⟨hd, rfl⟩ := k_dc_spec hI
      obtain ⟨a, S', rfl, hE1⟩ := k_un_spec hE
      obtain ⟨h1, hE2⟩ := k_set_spec hE1
      intro H locs ls hH hS hL hV
      obtain ⟨v1, v2⟩ := k_kV_tail hV
      exact lv_istore hx hb hd hL.1 (by rw [← hL.2.1]; exact h1) rfl (fun ls' hl' => ih _ _ _ _ hr hE2 H locs ls' hH hS (kLs_set hL h1 v1 hl') v2)
    case astore_n k =>
      obtain ⟨hd, rfl⟩ := k_dc_spec hI
      obtain ⟨a, S', rfl, hE1⟩ := k_ob_spec hE
      obtain ⟨h1, hE2⟩ := k_set_spec hE1
      intro H locs ls hH hS hL hV
      obtain ⟨v1, v2⟩ := k_kV_tail hV
      exact lv_astore_n hx hb hd rfl hL.1 (by rw [← hL.2.1]; exact h1) rfl (fun ls' hl' => ih _ _ _ _ hr hE2 H locs ls' hH hS (kLs_set hL h1 v1 hl') v2)
    case astore k =>
      obtain ⟨hd, rfl⟩ := k_dc_spec hI
      obtain ⟨a, S', rfl, hE1⟩ := k_ob_spec hE
      obtain ⟨h1, hE2⟩ := k_set_spec hE1
      intro H locs ls hH hS hL hV
      obtain ⟨v1, v2⟩ := k_kV_tail hV
      exact lv_astore hx hb hd hL.1 (by rw [← hL.2.1]; exact h1) rfl (fun ls' hl' => ih _ _ _ _ hr hE2 H locs ls' hH hS (kLs_set hL h1 v1 hl') v2)
    case iinc k n =>
      obtain ⟨hd, rfl⟩ := k_dc_spec hI
      obtain ⟨v, h1, hE1⟩ := k_get_spec hE
      obtain ⟨a, rfl, hE2⟩ := k_int_spec hE1
      obtain ⟨hin, hE3⟩ := hE2
      obtain ⟨h2, hE4⟩ := k_set_spec hE3
      intro H locs ls hH hS hL hV
      obtain ⟨kk, hkk⟩ := List.getElem?_of_mem (k_lv_in.mpr ⟨_, h1, rfl⟩ : (k, rv ad (.inl a)) ∈ k_lv ad L)
      exact lv_iinc hx hb hd hL.1 hkk (by rw [← Int32.ofInt_add]) (by rw [← hL.2.1]; exact h2) rfl (fun ls' hl' => ih _ _ _ _ hr hE4 H locs ls' hH hS (kLs_set hL h2 hin hl') hV)
    case iadd =>
      obtain ⟨hd, rfl⟩ := k_dc_spec hI
      obtain ⟨a, b, S', rfl, hE1⟩ := k_bin_spec hE
      obtain ⟨z, hz, hzi, hE2⟩ := k_ar_spec (K := fun z => k_exec E.2.2.2.1 E.2.2.2.2 J (kCall E h) T r L (vI z :: S') m) hE1
      intro H locs ls hH hS hL hV
      obtain ⟨v1, v2⟩ := k_kV_tail hV
      obtain ⟨v3, v4⟩ := k_kV_tail v2
      refine lv_iadd hx hb hd ?_
      rw [← Int32.ofInt_add, hz]
      exact ih _ _ _ _ hr hE2 H locs ls hH hS hL (k_kV_cons hzi v4)
    case isub =>
      obtain ⟨hd, rfl⟩ := k_dc_spec hI
      obtain ⟨a, b, S', rfl, hE1⟩ := k_bin_spec hE
      obtain ⟨z, hz, hzi, hE2⟩ := k_ar_spec (K := fun z => k_exec E.2.2.2.1 E.2.2.2.2 J (kCall E h) T r L (vI z :: S') m) hE1
      intro H locs ls hH hS hL hV
      obtain ⟨v1, v2⟩ := k_kV_tail hV
      obtain ⟨v3, v4⟩ := k_kV_tail v2
      refine lv_isub hx hb hd ?_
      rw [← Int32.ofInt_sub, hz]
      exact ih _ _ _ _ hr hE2 H locs ls hH hS hL (k_kV_cons hzi v4)
    case imul =>
      obtain ⟨hd, rfl⟩ := k_dc_spec hI
      obtain ⟨a, b, S', rfl, hE1⟩ := k_bin_spec hE
      obtain ⟨z, hz, hzi, hE2⟩ := k_ar_spec (K := fun z => k_exec E.2.2.2.1 E.2.2.2.2 J (kCall E h) T r L (vI z :: S') m) hE1
      intro H locs ls hH hS hL hV
      obtain ⟨v1, v2⟩ := k_kV_tail hV
      obtain ⟨v3, v4⟩ := k_kV_tail v2
      refine lv_imul hx hb hd ?_
      rw [← Int32.ofInt_mul, hz]
      exact ih _ _ _ _ hr hE2 H locs ls hH hS hL (k_kV_cons hzi v4)
    case ineg =>
      obtain ⟨hd, rfl⟩ := k_dc_spec hI
      obtain ⟨a, S', rfl, hE1⟩ := k_un_spec hE
      obtain ⟨z, hz, hzi, hE2⟩ := k_ar_spec (K := fun z => k_exec E.2.2.2.1 E.2.2.2.2 J (kCall E h) T r L (vI z :: S') m) hE1
      intro H locs ls hH hS hL hV
      obtain ⟨v1, v2⟩ := k_kV_tail hV
      refine lv_ineg hx hb hd ?_
      rw [k_ofInt_neg, hz]
      exact ih _ _ _ _ hr hE2 H locs ls hH hS hL (k_kV_cons hzi v2)
    case idiv =>
      obtain ⟨hd, rfl⟩ := k_dc_spec hI
      obtain ⟨a, b, S', rfl, hE1⟩ := k_bin_spec hE
      obtain ⟨h0, hzi, hE2⟩ := hE1
      intro H locs ls hH hS hL hV
      obtain ⟨v1, v2⟩ := k_kV_tail hV
      obtain ⟨v3, v4⟩ := k_kV_tail v2
      refine lv_idiv hx hb hd (by rw [← k_zero, k_eq v1 k_inR0]; exact h0) ?_
      rw [k_div v3 v1]
      exact ih _ _ _ _ hr hE2 H locs ls hH hS hL (k_kV_cons hzi v4)
    case irem =>
      obtain ⟨hd, rfl⟩ := k_dc_spec hI
      obtain ⟨a, b, S', rfl, hE1⟩ := k_bin_spec hE
      obtain ⟨h0, hE2⟩ := hE1
      intro H locs ls hH hS hL hV
      obtain ⟨v1, v2⟩ := k_kV_tail hV
      obtain ⟨v3, v4⟩ := k_kV_tail v2
      refine lv_irem hx hb hd (by rw [← k_zero, k_eq v1 k_inR0]; exact h0) ?_
      rw [k_rem v3 v1]
      exact ih _ _ _ _ hr hE2 H locs ls hH hS hL (k_kV_cons (k_tmod_in v3 v1 h0) v4)
    case iand =>
      obtain ⟨hd, rfl⟩ := k_dc_spec hI
      obtain ⟨a, b, S', rfl, hE1⟩ := k_bin_spec hE
      intro H locs ls hH hS hL hV
      obtain ⟨v1, v2⟩ := k_kV_tail hV
      obtain ⟨v3, v4⟩ := k_kV_tail v2
      refine lv_iand hx hb hd ?_
      rw [← k_ofInt_toInt (Int32.ofInt a &&& Int32.ofInt b)]
      exact ih _ _ _ _ hr hE1 H locs ls hH hS hL (k_kV_cons (k_in_toInt _) v4)
    case ior =>
      obtain ⟨hd, rfl⟩ := k_dc_spec hI
      obtain ⟨a, b, S', rfl, hE1⟩ := k_bin_spec hE
      intro H locs ls hH hS hL hV
      obtain ⟨v1, v2⟩ := k_kV_tail hV
      obtain ⟨v3, v4⟩ := k_kV_tail v2
      refine lv_ior hx hb hd ?_
      rw [← k_ofInt_toInt (Int32.ofInt a ||| Int32.ofInt b)]
      exact ih _ _ _ _ hr hE1 H locs ls hH hS hL (k_kV_cons (k_in_toInt _) v4)
    case ixor =>
      obtain ⟨hd, rfl⟩ := k_dc_spec hI
      obtain ⟨a, b, S', rfl, hE1⟩ := k_bin_spec hE
      intro H locs ls hH hS hL hV
      obtain ⟨v1, v2⟩ := k_kV_tail hV
      obtain ⟨v3, v4⟩ := k_kV_tail v2
      refine lv_ixor hx hb hd ?_
      rw [← k_ofInt_toInt (Int32.ofInt a ^^^ Int32.ofInt b)]
      exact ih _ _ _ _ hr hE1 H locs ls hH hS hL (k_kV_cons (k_in_toInt _) v4)
    case ishl =>
      obtain ⟨hd, rfl⟩ := k_dc_spec hI
      obtain ⟨a, b, S', rfl, hE1⟩ := k_bin_spec hE
      intro H locs ls hH hS hL hV
      obtain ⟨v1, v2⟩ := k_kV_tail hV
      obtain ⟨v3, v4⟩ := k_kV_tail v2
      refine lv_ishl hx hb hd ?_
      rw [← k_ofInt_toInt (Int32.ofInt a <<< (Int32.ofInt b &&& 31))]
      exact ih _ _ _ _ hr hE1 H locs ls hH hS hL (k_kV_cons (k_in_toInt _) v4)
    case ishr =>
      obtain ⟨hd, rfl⟩ := k_dc_spec hI
      obtain ⟨a, b, S', rfl, hE1⟩ := k_bin_spec hE
      intro H locs ls hH hS hL hV
      obtain ⟨v1, v2⟩ := k_kV_tail hV
      obtain ⟨v3, v4⟩ := k_kV_tail v2
      refine lv_ishr hx hb hd ?_
      rw [← k_ofInt_toInt (Int32.ofInt a >>> (Int32.ofInt b &&& 31))]
      exact ih _ _ _ _ hr hE1 H locs ls hH hS hL (k_kV_cons (k_in_toInt _) v4)
    case iushr =>
      obtain ⟨hd, rfl⟩ := k_dc_spec hI
      obtain ⟨a, b, S', rfl, hE1⟩ := k_bin_spec hE
      intro H locs ls hH hS hL hV
      obtain ⟨v1, v2⟩ := k_kV_tail hV
      obtain ⟨v3, v4⟩ := k_kV_tail v2
      refine lv_iushr hx hb hd rfl ?_
      rw [← k_ofInt_toInt ((Int32.ofInt a).toUInt32 >>> ((Int32.ofInt b).toUInt32 &&& Int32.toUInt32 31)).toInt32]
      exact ih _ _ _ _ hr hE1 H locs ls hH hS hL (k_kV_cons (k_in_toInt _) v4)
    case dup =>
      obtain ⟨hd, rfl⟩ := k_dc_spec hI
      match S, hE with
      | .inl a :: S, hE =>
        intro H locs ls hH hS hL hV
        obtain ⟨v1, v2⟩ := k_kV_tail hV
        exact lv_dup hx hb hd rfl (ih _ _ _ _ hr hE H locs ls hH hS hL (k_kV_cons v1 hV))
      | .inr (.inl a) :: S, hE =>
        intro H locs ls hH hS hL hV
        obtain ⟨v1, v2⟩ := k_kV_tail hV
        exact lv_dup hx hb hd rfl (ih _ _ _ _ hr hE H locs ls hH hS hL (k_kV_cons v1 hV))
    case dup2 =>
      obtain ⟨hd, rfl⟩ := k_dc_spec hI
      match S, hE with
      | .inl b :: .inr (.inl a) :: S, hE =>
        intro H locs ls hH hS hL hV
        obtain ⟨v1, v2⟩ := k_kV_tail hV
        obtain ⟨v3, v4⟩ := k_kV_tail v2
        exact lv_dup2_11 hx hb hd rfl rfl (ih _ _ _ _ hr hE H locs ls hH hS hL (k_kV_cons v1 (k_kV_cons v3 hV)))
    case pop =>
      obtain ⟨hd, rfl⟩ := k_dc_spec hI
      match S, hE with
      | .inl a :: S, hE =>
        intro H locs ls hH hS hL hV
        obtain ⟨v1, v2⟩ := k_kV_tail hV
        exact lv_pop hx hb hd rfl (ih _ _ _ _ hr hE H locs ls hH hS hL v2)
      | .inr (.inl a) :: S, hE =>
        intro H locs ls hH hS hL hV
        obtain ⟨v1, v2⟩ := k_kV_tail hV
        exact lv_pop hx hb hd rfl (ih _ _ _ _ hr hE H locs ls hH hS hL v2)
    case getfield j =>
      obtain ⟨o, S', rfl, hE1⟩ := k_ob_spec hE
      obtain ⟨ci, k, t, r', rfl, hE2⟩ := k_3_spec hE1
      obtain ⟨rs, hG, hE3⟩ := k_obj_spec hE2
      simp only [k_okI, Bool.and_eq_true] at hI
      obtain ⟨hd, rfl⟩ := k_dc_spec hI.1
      have hfl := k_fr hI.2
      by_cases ht : t = 1
      · subst ht
        have hE4 : (match rs[k]? with
          | some (some q) => k_exec E.2.2.2.1 E.2.2.2.2 J (kCall E h) T r L (vR q :: S') m
          | _ => False) := hE3
        split at hE4
        · rename_i q hq
          exact k_stepGet hX hd hfl hG (Or.inl ⟨rfl, q, hq, rfl⟩) (ih _ _ _ _ hr hE4)
        · exact hE4.elim
      · have hE3 : k_exec E.2.2.2.1 E.2.2.2.2 J (kCall E h) T r L (vI (fld m o k) :: S') m := by
          split at hE3
          · exact absurd rfl ht
          · exact hE3
        exact k_stepGet hX hd hfl hG (Or.inr ⟨ht, rfl⟩) (ih _ _ _ _ hr hE3)
    case putfield j =>
      obtain ⟨v, S', rfl, hE1⟩ := k_un_spec hE
      obtain ⟨o, S', rfl, hE2⟩ := k_ob_spec hE1
      obtain ⟨ci, k, t, r', rfl, hE3⟩ := k_3_spec hE2
      obtain ⟨rs, hG, hE4⟩ := k_obj_spec hE3
      simp only [k_okI, Bool.and_eq_true] at hI
      obtain ⟨hd, rfl⟩ := k_dc_spec hI.1
      obtain ⟨hfl, hfin⟩ := k_frp hI.2
      split at hE4
      · exact k_stepPut hX hd hfl hfin hG (Or.inl rfl) (ih _ _ _ _ hr hE4)
      · exact k_stepPut hX hd hfl hfin hG (Or.inr ⟨rfl, hE4.1⟩) (ih _ _ _ _ hr hE4.2)
      · exact hE4.elim
    case getstatic j =>
      obtain ⟨b, r', rfl, hE1⟩ := k_1_spec hE
      simp only [k_okI, Bool.and_eq_true] at hI
      obtain ⟨hd, rfl⟩ := k_dc_spec hI.1
      obtain ⟨q, hq, hz⟩ := k_any hI.2
      simp only [Bool.and_eq_true] at hz
      exact k_stepStatic hX hd ⟨q, hq, Nat.eq_of_beq_eq_true hz.1, Nat.eq_of_beq_eq_true hz.2.1, Nat.eq_of_beq_eq_true hz.2.2⟩ (ih _ _ _ _ hr hE1)
    case iaload =>
      obtain ⟨hd, rfl⟩ := k_dc_spec hI
      obtain ⟨i, S', rfl, hE1⟩ := k_un_spec hE
      obtain ⟨o, S', rfl, hE2⟩ := k_ob_spec hE1
      rcases k_rd_spec hE2 with ⟨n, hG, hi, hE3⟩ | ⟨j, n, f, rfl, hj, hi, hE3⟩
      · exact k_stepRead hX hd (Or.inl ⟨rfl, rfl⟩) (Or.inl ⟨n, hG, rfl, rfl⟩) hi (ih _ _ _ _ hr hE3)
      · exact k_stepRead hX hd (Or.inl ⟨rfl, rfl⟩) (Or.inr ⟨j, rfl, hj⟩) hi (ih _ _ _ _ hr hE3)
    case baload =>
      obtain ⟨hd, rfl⟩ := k_dc_spec hI
      obtain ⟨i, S', rfl, hE1⟩ := k_un_spec hE
      obtain ⟨o, S', rfl, hE2⟩ := k_ob_spec hE1
      rcases k_rd_spec hE2 with ⟨n, hG, hi, hE3⟩ | ⟨j, n, f, rfl, hj, hi, hE3⟩
      · exact k_stepRead hX hd (Or.inr (Or.inl ⟨rfl, rfl⟩)) (Or.inl ⟨n, hG, rfl, rfl⟩) hi (ih _ _ _ _ hr hE3)
      · exact k_stepRead hX hd (Or.inr (Or.inl ⟨rfl, rfl⟩)) (Or.inr ⟨j, rfl, hj⟩) hi (ih _ _ _ _ hr hE3)
    case caload =>
      obtain ⟨hd, rfl⟩ := k_dc_spec hI
      obtain ⟨i, S', rfl, hE1⟩ := k_un_spec hE
      obtain ⟨o, S', rfl, hE2⟩ := k_ob_spec hE1
      rcases k_rd_spec hE2 with ⟨n, hG, hi, hE3⟩ | ⟨j, n, f, rfl, hj, hi, hE3⟩
      · exact k_stepRead hX hd (Or.inr (Or.inr ⟨rfl, rfl⟩)) (Or.inl ⟨n, hG, rfl, rfl⟩) hi (ih _ _ _ _ hr hE3)
      · exact k_stepRead hX hd (Or.inr (Or.inr ⟨rfl, rfl⟩)) (Or.inr ⟨j, rfl, hj⟩) hi (ih _ _ _ _ hr hE3)
    case iastore =>
      obtain ⟨hd, rfl⟩ := k_dc_spec hI
      obtain ⟨i, v, S', rfl, hE1⟩ := k_bin_spec hE
      obtain ⟨o, S', rfl, hE2⟩ := k_ob_spec hE1
      obtain ⟨n, hG, hi, hE3⟩ := k_wr_spec hE2
      exact k_stepWrite hX hd (Or.inl ⟨rfl, rfl⟩) hG hi (ih _ _ _ _ hr hE3)
    case bastore =>
      obtain ⟨hd, rfl⟩ := k_dc_spec hI
      obtain ⟨i, v, S', rfl, hE1⟩ := k_bin_spec hE
      obtain ⟨o, S', rfl, hE2⟩ := k_ob_spec hE1
      obtain ⟨n, hG, hi, hv, hE3⟩ := k_wr_spec hE2
      exact k_stepWrite hX hd (Or.inr ⟨rfl, rfl, hv⟩) hG hi (ih _ _ _ _ hr hE3)
    case arraylength =>
      obtain ⟨hd, rfl⟩ := k_dc_spec hI
      obtain ⟨o, S', rfl, hE1⟩ := k_ob_spec hE
      rcases k_len_spec hE1 with ⟨ty, n, hG, hE2⟩ | ⟨j, ty, n, f, rfl, hj, hE2⟩
      · exact k_stepLen hX hd (Or.inl ⟨ty, hG⟩) (ih _ _ _ _ hr hE2)
      · exact k_stepLen hX hd (Or.inr ⟨j, ty, f, rfl, hj⟩) (ih _ _ _ _ hr hE2)
    case goto f =>
      obtain ⟨b, r', rfl, hE1⟩ := k_1_spec hE
      simp only [k_okI, Bool.and_eq_true] at hI
      obtain ⟨hd, rfl⟩ := k_dc_spec hI.1
      obtain ⟨t, h1, h2⟩ := k_tg_spec hI.2
      have hj := hJ b L S m hE1
      rw [k_pc_of h1] at hj
      intro H locs ls hH hS hL hV
      exact lv_goto hx hb hd h2 (hj H locs ls hH hS hL hV)
    case ifCond cnd f =>
      obtain ⟨b, r', rfl, hE1⟩ := k_1_spec hE
      obtain ⟨a, S', rfl, hE2⟩ := k_un_spec hE1
      simp only [k_okI, Bool.and_eq_true] at hI
      obtain ⟨hd, rfl⟩ := k_dc_spec hI.1
      obtain ⟨t, h1, h2⟩ := k_tg_spec hI.2
      intro H locs ls hH hS hL hV
      obtain ⟨v1, v2⟩ := k_kV_tail hV
      have v1 : inR a := v1
      have hj : J b L S' m → W p E.1 e R s mm args below meth c H locs cells slots Qf (F0 mm t ls (S'.map (rv ad))) := fun q => by
        have := hJ b L S' m q
        rw [k_pc_of h1] at this
        exact this H locs ls hH hS hL v2
      have hn : k_exec E.2.2.2.1 E.2.2.2.2 J (kCall E h) T r L S' m → W p E.1 e R s mm args below meth c H locs cells slots Qf (F0 mm (pc + 3) ls (S'.map (rv ad))) := fun q => ih _ _ _ _ hr q H locs ls hH hS hL v2
      cases cnd
      · exact lv_if_eq hx hb hd h2 (fun q => hj (hE2.1 ((k_eq v1 k_inR0).mp (by rw [k_zero]; exact q)))) (fun q => hn (hE2.2 (fun z => q (by rw [← k_zero]; exact (k_eq v1 k_inR0).mpr z))))
      · exact lv_if_ne hx hb hd h2 (fun q => hj (hE2.1 (fun z => q (by rw [← k_zero]; exact (k_eq v1 k_inR0).mpr z)))) (fun q => hn (hE2.2 ((k_eq v1 k_inR0).mp (by rw [k_zero]; exact q))))
      · exact lv_if_lt hx hb hd h2 (fun q => hj (hE2.1 ((k_lt v1 k_inR0).mp (by rw [k_zero]; exact q)))) (fun q => hn (hE2.2 (Int.not_lt.mp (fun z => q (by rw [← k_zero]; exact (k_lt v1 k_inR0).mpr z)))))
      · exact lv_if_ge hx hb hd h2 (fun q => hj (hE2.1 ((k_le k_inR0 v1).mp (by rw [k_zero]; exact q)))) (fun q => hn (hE2.2 (Int.not_le.mp (fun z => q (by rw [← k_zero]; exact (k_le k_inR0 v1).mpr z)))))
      · exact lv_if_gt hx hb hd h2 (fun q => hj (hE2.1 ((k_lt k_inR0 v1).mp (by rw [k_zero]; exact q)))) (fun q => hn (hE2.2 (Int.not_lt.mp (fun z => q (by rw [← k_zero]; exact (k_lt k_inR0 v1).mpr z)))))
      · exact lv_if_le hx hb hd h2 (fun q => hj (hE2.1 ((k_le v1 k_inR0).mp (by rw [k_zero]; exact q)))) (fun q => hn (hE2.2 (Int.not_le.mp (fun z => q (by rw [← k_zero]; exact (k_le v1 k_inR0).mpr z)))))
    case if_icmp cnd f =>
      obtain ⟨b, r', rfl, hE1⟩ := k_1_spec hE
      obtain ⟨a, z, S', rfl, hE2⟩ := k_bin_spec hE1
      simp only [k_okI, Bool.and_eq_true] at hI
      obtain ⟨hd, rfl⟩ := k_dc_spec hI.1
      obtain ⟨t, h1, h2⟩ := k_tg_spec hI.2
      intro H locs ls hH hS hL hV
      obtain ⟨v1, v2⟩ := k_kV_tail hV
      obtain ⟨v3, v4⟩ := k_kV_tail v2
      have v1 : inR z := v1
      have v3 : inR a := v3
      have hj : J b L S' m → W p E.1 e R s mm args below meth c H locs cells slots Qf (F0 mm t ls (S'.map (rv ad))) := fun q => by
        have := hJ b L S' m q
        rw [k_pc_of h1] at this
        exact this H locs ls hH hS hL v4
      have hn : k_exec E.2.2.2.1 E.2.2.2.2 J (kCall E h) T r L S' m → W p E.1 e R s mm args below meth c H locs cells slots Qf (F0 mm (pc + 3) ls (S'.map (rv ad))) := fun q => ih _ _ _ _ hr q H locs ls hH hS hL v4
      cases cnd
      · exact lv_icmp_eq hx hb hd h2 (fun q => hj (hE2.1 ((k_eq v3 v1).mp q))) (fun q => hn (hE2.2 (fun w => q ((k_eq v3 v1).mpr w))))
      · exact lv_icmp_ne hx hb hd h2 (fun q => hj (hE2.1 (fun w => q ((k_eq v3 v1).mpr w)))) (fun q => hn (hE2.2 ((k_eq v3 v1).mp q)))
      · exact lv_icmp_lt hx hb hd h2 (fun q => hj (hE2.1 ((k_lt v3 v1).mp q))) (fun q => hn (hE2.2 (Int.not_lt.mp (fun w => q ((k_lt v3 v1).mpr w)))))
      · exact lv_icmp_ge hx hb hd h2 (fun q => hj (hE2.1 ((k_le v1 v3).mp q))) (fun q => hn (hE2.2 (Int.not_le.mp (fun w => q ((k_le v1 v3).mpr w)))))
      · exact lv_icmp_gt hx hb hd h2 (fun q => hj (hE2.1 ((k_lt v1 v3).mp q))) (fun q => hn (hE2.2 (Int.not_lt.mp (fun w => q ((k_lt v1 v3).mpr w)))))
      · exact lv_icmp_le hx hb hd h2 (fun q => hj (hE2.1 ((k_le v3 v1).mp q))) (fun q => hn (hE2.2 (Int.not_le.mp (fun w => q ((k_le v3 v1).mpr w)))))
    case tableswitch d lo hi fs =>
      match x, hE, hI with
      | b :: bs, hE, hI =>
        obtain ⟨v, S', rfl, hE1⟩ := k_un_spec hE
        simp only [k_okI, Bool.and_eq_true, decide_eq_true_eq] at hI
        obtain ⟨hd, -⟩ := k_dc_spec hI.1
        obtain ⟨hI1, hI2, hI3⟩ := hI.2
        intro H locs ls hH hS hL hV
        obtain ⟨v1, v2⟩ := k_kV_tail hV
        have v1 : inR v := v1
        have hj : ∀ (b t : Nat), (M.2.2.2.2.map (fun z => z.1))[b]? = some t → J b L S' m → W p E.1 e R s mm args below meth c H locs cells slots Qf (F0 mm t ls (S'.map (rv ad))) := fun b t h1 q => by
          have := hJ b L S' m q
          rw [k_pc_of h1] at this
          exact this H locs ls hH hS hL v2
        by_cases ho : v < lo ∨ hi < v
        · obtain ⟨t, h1, h2⟩ := k_tg_spec hI1
          exact lv_tableOut hx hb hd (by rw [k_toInt_in v1]; exact ho) h2 (hj b t h1 (hE1.1 ho))
        · obtain ⟨b', f', g1, g2, g3⟩ := k_cases_spec hE1.2 hI2 (by omega) (by omega)
          obtain ⟨t, h1, h2⟩ := k_tg_spec g2
          exact lv_tableIn hx hb hd (by rw [k_toInt_in v1]; omega) (by rw [k_toInt_in v1]; omega) (by rw [k_toInt_in v1, ← Array.getElem?_toList]; exact g1) h2 (hj b' t h1 g3)
    case invokevirtual j =>
      obtain ⟨n, na, ci, r', rfl, hE1⟩ := k_3_spec hE
      obtain ⟨xs, S', rfl, hlen, hE2⟩ := k_pop_spec hE1
      simp only [k_okI, Bool.and_eq_true, decide_eq_true_eq] at hI
      obtain ⟨hd, rfl⟩ := k_dc_spec hI.1
      obtain ⟨⟨hcl, hI1⟩, hI2⟩ := hI.2
      obtain ⟨q, hq, hz⟩ := k_any hI1
      obtain ⟨q2, hq2, hz2⟩ := k_any hI2
      simp only [Bool.and_eq_true] at hz hz2
      rw [List.append_nil] at hE2
      cases hrev : xs.reverse with
      | nil => rw [hrev] at hE2; exact hE2.elim
      | cons v ys =>
        rw [hrev] at hE2
        match v, hE2 with
        | .inr (.inl o), hE =>
          obtain ⟨rs, hG, hE3⟩ := k_obj_spec hE
          obtain ⟨hs, hE4⟩ := k_if_spec hE3
          have hxs : xs = ys.reverse ++ [.inr (.inl o)] := by
            have := congrArg List.reverse hrev
            simpa using this
          subst hxs
          rw [List.append_assoc]
          exact k_stepV hX hd hcl ⟨q, hq, Nat.eq_of_beq_eq_true hz.1, Nat.eq_of_beq_eq_true hz.2.1, Nat.eq_of_beq_eq_true hz.2.2.1, Nat.eq_of_beq_eq_true hz.2.2.2⟩ ⟨q2, hq2, Nat.eq_of_beq_eq_true hz2.1, Nat.eq_of_beq_eq_true hz2.2.1, by simpa using hz2.2.2⟩ hG (by simpa using hlen) (Nat.le_of_ble_eq_true hs) hE4 (fun r m' hq => ih _ _ _ _ hr hq)
    case invokestatic j =>
      match x, hE, hI with
      | [], hE, hI =>
        simp only [k_okI, Bool.and_eq_true] at hI
        obtain ⟨hd, rfl⟩ := k_dc_spec hI.1
        obtain ⟨q, hq, hz⟩ := k_any hI.2
        simp only [Bool.and_eq_true] at hz
        match S, hE with
        | .inl n :: .inl dp :: .inr (.inl d) :: .inl sp :: .inr (.inl a) :: S, hE =>
          obtain ⟨na, hGa, hE1⟩ := k_wr_spec hE
          obtain ⟨nd, hGd, hz2, hE2⟩ := k_wr_spec hE1
          obtain ⟨hs, hE3⟩ := k_if_spec hE2
          exact k_stepCopy hX hd ⟨q, hq, Nat.eq_of_beq_eq_true hz.1, Nat.eq_of_beq_eq_true hz.2⟩ hGa hGd hz2 (Nat.le_of_ble_eq_true hs) (ih _ _ _ _ hr hE3)
      | [k], hE, hI =>
        simp only [k_okI, Bool.and_eq_true] at hI
        obtain ⟨hd, rfl⟩ := k_dc_spec hI.1
        obtain ⟨⟨qo, qi, qk, qp⟩, hq, hz⟩ := k_any hI.2
        simp only [Bool.and_eq_true] at hz
        have e1 := Nat.eq_of_beq_eq_true hz.1
        have e2 := Nat.eq_of_beq_eq_true hz.2.1
        have e3 := Nat.eq_of_beq_eq_true hz.2.2
        subst e1 e2 e3
        have hk := k_XR_ok _ hq
        simp only [k_xchk] at hk
        match qk, hk, hE with
        | 0, hk, hE =>
          obtain ⟨a, b, S', rfl, hE1⟩ := k_bin_spec hE
          obtain ⟨hs, hE2⟩ := k_if_spec hE1
          intro H locs ls hH hS hL hV
          obtain ⟨v1, v2⟩ := k_kV_tail hV
          obtain ⟨v3, v4⟩ := k_kV_tail v2
          have v1 : inR b := v1
          have v3 : inR a := v3
          refine va_mmax hx hb (by rw [hml]; exact hL.1.1.symm) hown (hts _ (k_at_in hk)) (hts _ k_xmax.1) (hts _ k_xmax.2.1) (hts _ k_xmax.2.2) (by omega) (by rw [k_sum_cat v4]; have := Nat.le_of_ble_eq_true hs; omega) hce hsl hd ?_
          have hm : (if Int32.ofInt a < Int32.ofInt b then Int32.ofInt b else Int32.ofInt a) = Int32.ofInt (max a b) := by
            by_cases hab : a < b
            · rw [if_pos ((k_lt v3 v1).mpr hab), show max a b = b by omega]
            · rw [if_neg (fun z => hab ((k_lt v3 v1).mp z)), show max a b = a by omega]
          rw [hm]
          exact ih _ _ _ _ hr hE2 H locs ls hH hS hL (k_kV_cons (show inR (max a b) by obtain ⟨_, _⟩ := v1; obtain ⟨_, _⟩ := v3; constructor <;> omega) v4)
        | 1, hk, hE =>
          obtain ⟨a, b, S', rfl, hE1⟩ := k_bin_spec hE
          obtain ⟨hs, hE2⟩ := k_if_spec hE1
          intro H locs ls hH hS hL hV
          obtain ⟨v1, v2⟩ := k_kV_tail hV
          obtain ⟨v3, v4⟩ := k_kV_tail v2
          have v1 : inR b := v1
          have v3 : inR a := v3
          refine va_mmin hx hb (by rw [hml]; exact hL.1.1.symm) hown (hts _ (k_at_in hk)) (hts _ k_xmin.1) (hts _ k_xmin.2.1) (hts _ k_xmin.2.2) (by omega) (by rw [k_sum_cat v4]; have := Nat.le_of_ble_eq_true hs; omega) hce hsl hd ?_
          have hm : (if Int32.ofInt b < Int32.ofInt a then Int32.ofInt b else Int32.ofInt a) = Int32.ofInt (min a b) := by
            by_cases hab : b < a
            · rw [if_pos ((k_lt v1 v3).mpr hab), show min a b = b by omega]
            · rw [if_neg (fun z => hab ((k_lt v1 v3).mp z)), show min a b = a by omega]
          rw [hm]
          exact ih _ _ _ _ hr hE2 H locs ls hH hS hL (k_kV_cons (show inR (min a b) by obtain ⟨_, _⟩ := v1; obtain ⟨_, _⟩ := v3; constructor <;> omega) v4)
        | 2, hk, hE =>
          obtain ⟨a, S', rfl, hE1⟩ := k_un_spec hE
          obtain ⟨hn, hE3⟩ := hE1
          obtain ⟨hs, hE2⟩ := k_if_spec hE3
          intro H locs ls hH hS hL hV
          obtain ⟨v1, v4⟩ := k_kV_tail hV
          have v1 : inR a := v1
          refine va_mabs hx hb (by rw [hml]; exact hL.1.1.symm) hown (hts _ (k_at_in hk)) (hts _ k_xabs.1) (hts _ k_xabs.2.1) (hts _ k_xabs.2.2) (by omega) (by rw [k_sum_cat v4]; have := Nat.le_of_ble_eq_true hs; omega) hce hsl hd ?_
          have hm : (if 0 ≤ Int32.ofInt a then Int32.ofInt a else 0 - Int32.ofInt a) = Int32.ofInt (max a (-a)) := by
            rw [← k_zero]
            by_cases hab : 0 ≤ a
            · rw [if_pos ((k_le k_inR0 v1).mpr hab), show max a (-a) = a by omega]
            · rw [if_neg (fun z => hab ((k_le k_inR0 v1).mp z)), ← Int32.ofInt_sub, show max a (-a) = 0 - a by omega]
          rw [hm]
          exact ih _ _ _ _ hr hE2 H locs ls hH hS hL (k_kV_cons (show inR (max a (-a)) by obtain ⟨_, _⟩ := v1; obtain ⟨_, _⟩ := hn; constructor <;> omega) v4)
        | k + 3, hk, hE =>
          exact hE.elim
      | n :: na :: xr, hE, hI =>
        have hE4 : k_pop na S [] (fun as S => k_if (Nat.ble (S.map k_cat).sum 8) (kCall E h n as m (fun rr m' => k_exec E.2.2.2.1 E.2.2.2.2 J (kCall E h) T r L (k_push rr S) m'))) := hE
        obtain ⟨xs, S', rfl, hlen, hE5⟩ := k_pop_spec hE4
        obtain ⟨hs, hE6⟩ := k_if_spec hE5
        simp only [k_okI, Bool.and_eq_true] at hI
        obtain ⟨hd, rfl⟩ := k_dc_spec hI.1
        obtain ⟨q, hq, hz⟩ := k_any hI.2.1
        obtain ⟨q2, hq2, hz2⟩ := k_any hI.2.2
        simp only [Bool.and_eq_true] at hz hz2
        rw [List.append_nil] at hE6
        have := k_stepS (xs := xs.reverse) (S' := S') (L := L) hX hd ⟨q, hq, Nat.eq_of_beq_eq_true hz.1, Nat.eq_of_beq_eq_true hz.2.1, Nat.eq_of_beq_eq_true hz.2.2.1, Nat.eq_of_beq_eq_true hz.2.2.2⟩ ⟨q2, hq2, Nat.eq_of_beq_eq_true hz2.1, Nat.eq_of_beq_eq_true hz2.2⟩ (by simpa using hlen) (Nat.le_of_ble_eq_true hs) hE6 (fun r m' hq => ih _ _ _ _ hr hq)
        rw [List.reverse_reverse] at this
        exact this
    case ireturn =>
      obtain ⟨hd, rfl⟩ := k_dc_spec hI
      obtain ⟨a, S', rfl, hE1⟩ := k_un_spec hE
      match S', hE1 with
      | [], hE =>
        intro H locs ls hH hS hL hV
        obtain ⟨v1, v2⟩ := k_kV_tail hV
        exact hret (some (.inl a)) m H locs ls pc hE hH hS ⟨v1, hd⟩
    case return_ =>
      obtain ⟨hd, rfl⟩ := k_dc_spec hI
      match S, hE with
      | [], hE =>
        intro H locs ls hH hS hL hV
        exact hret none m H locs ls pc hE hH hS hd
    all_goals exact hE.elim
end KS
end
section
/-! the rules that the contracts are proved by -/
theorem kCall_mono {E : Ev} {h h' n : Nat} {as : List AV} {m : Mem} {Q Q' : Option AV → Mem → Prop} (H : kCall E h n as m Q) (hh : h ≤ h') (hQ : ∀ r m', Q r m' → Q' r m') : kCall E h' n as m Q' :=
  fun h2 hl Q2 hq => H h2 (Nat.le_trans hh hl) Q2 (fun r m' q => hq r m' (hQ r m' q))
theorem k_blk_sound {E : Ev} {h : Nat} {M : Md} {T : Option AV → Mem → Prop} {p : Program} {e : Env} {R : Room} {s : State} {mm : MethodId} {args : Array Value} {below : List Frame} {meth : Method} {c : Code} {cells slots : Nat} {Qf : State → Prop} {ad : Nat → Nat} {A : Nat → Prop} (hM : k_okM M) (hX : kX E h M T p e R s mm args below meth c cells slots Qf ad A) {cuts : List Nat} :
    ∀ (f b : Nat) (L : KL) (S : List AV) (m : Mem), k_blk E.2.2.2.1 E.2.2.2.2 (kCall E h) T M.2.2.2.2 cuts (kW E h M T) f b L S m → kWW E M p e R s mm args below meth c cells slots Qf ad A (k_pc M b) L S m := by
  intro f
  induction f with
  | zero => intro b L S m hB; exact hB.elim
  | succ f ih =>
    intro b L S m hB
    unfold k_blk at hB
    split at hB
    · exact hB p e R s mm args below meth c cells slots Qf ad A hX
    · split at hB
      · rename_i q hq
        have hk : k_pc M b = q.1 := by unfold k_pc; rw [List.getD_eq_getElem?_getD, hq]; rfl
        rw [hk]
        exact k_sound hX ih q.2 q.1 L S m (List.all_eq_true.mp hM.2.2.2.2.1 q (List.mem_of_getElem? hq)) hB
      · exact hB.elim
/-- from a block on: run it until the cuts -/
theorem kW_go {E : Ev} {h : Nat} {M : Md} {T : Option AV → Mem → Prop} (hM : k_okM M) (cuts : List Nat) (f : Nat) {b : Nat} {L : KL} {S : List AV} {m : Mem}
    (H : k_go E.2.2.2.1 E.2.2.2.2 (kCall E h) T M.2.2.2.2 cuts (kW E h M T) f b L S m) : kW E h M T b L S m := by
  intro p e R s mm args below meth c cells slots Qf ad A hX
  unfold k_go at H
  split at H
  · rename_i q hq
    have hk : k_pc M b = q.1 := by unfold k_pc; rw [List.getD_eq_getElem?_getD, hq]; rfl
    rw [hk]
    exact k_sound hX (k_blk_sound hM hX f) q.2 q.1 L S m (List.all_eq_true.mp hM.2.2.2.2.1 q (List.mem_of_getElem? hq)) H
  · exact H.elim
theorem k_sl_len {ad : Nat → Nat} {as : List AV} (h : ∀ v ∈ as, kV v) : (lg_sl (as.map (rv ad))).length = as.length := by
  induction as with
  | nil => rfl
  | cons v as ih =>
    obtain ⟨h1, h2⟩ := k_kV_tail h
    have := ih h2
    match v, h1 with
    | .inl a, _ => simpa [lg_sl, rv, Value.category] using this
    | .inr (.inl a), _ => simpa [lg_sl, rv, Value.category] using this
theorem k_args_in {ad : Nat → Nat} {as : List AV} (h : ∀ v ∈ as, kV v) : ∀ (i j : Nat) (v : AV), as[j]? = some v → (i + j, rv ad v) ∈ lv_args i (as.map (rv ad)) := by
  induction as with
  | nil => intro i j v hv; simp at hv
  | cons a as ih =>
    intro i j v hv
    obtain ⟨h1, h2⟩ := k_kV_tail h
    simp only [List.map_cons, lv_args]
    have hc := kV_cat (ad := ad) h1
    rw [if_neg (by rw [hc]; decide)]
    cases j with
    | zero =>
      simp at hv
      subst hv
      exact List.mem_cons_self
    | succ j =>
      refine List.mem_cons_of_mem _ ?_
      have := ih h2 (i + 1) j v (by simpa using hv)
      rw [show i + (j + 1) = i + 1 + j by omega]
      exact this
/-- a method's contract out of its body -/
theorem kCall_of {E : Ev} {h n : Nat} {M : Md} {as : List AV} {m : Mem} {Q : Option AV → Mem → Prop} (hM : k_okM M) (hn : M.1 = n) (hlen : as.length ≤ M.2.2.1)
    (H : kW E h M (k_T M.2.2.2.1 Q) 0 (as.map some ++ List.replicate (M.2.2.1 - as.length) none) [] m) : kCall E (h + 1) n as m Q := by
  intro h' hh Q' hQ ad hV
  subst hn
  obtain ⟨m1, m2, m3, m4, m5, m6⟩ := id hM
  refine Met.ofW (cc := (MT M.1).2.1) (maxL := (MT M.1).2.2.1) (ret := (MT M.1).2.2.2) m4 rfl ?_
  intro p e s mm args below meth c s₁ B hml hv
  obtain ⟨rfl, hH, hK, hRo, hLn⟩ := hv
  have hts := atoms_spec (ws := Cond.code (MT M.1).1 (MT M.1).2.1 (MT M.1).2.2.1 (MT M.1).2.2.2 :: TT) B.pre
  have hown : s.vm.findClass (MT M.1).1.cls = some mm.cls := findClass_of_methodNamed B.named
  have hlocks := B.notSynchronized
  have hr := B.returns
  have hX : kX E h M (k_T M.2.2.2.1 Q) p e (k_rm h') s mm (as.map (rv ad)).toArray below meth c 0 0 (MQ below (fun _ st oc t => (∃ (r : Option AV) (m' : Mem), oc = .returned (r.map (rv ad)) ∧ Q' r m' ∧ kHp E ad (kAd E ad) m' t.heap ∧ ∀ v, r = some v → kV v) ∧ va_F (kAd E ad) st t) (as.map (rv ad)).toArray s 0 0 (kAd E ad)) ad (kAd E ad) := by
    refine ⟨B.exec, B.bytes, by rw [hml, m1], by rw [← m3]; exact hown, fun w hw => hts w (List.mem_cons_of_mem _ hw), by show h + 1 ≤ h'; omega, by show 40 * (h + 1) ≤ 40 * h'; omega, Nat.le_refl _, Nat.le_refl _, hK, hRo, fun o ho => ⟨o, ho, rfl⟩, hLn, ?_⟩
    intro r m' H' locs ls pc hT hp hS hdec
    rw [m2] at hr
    unfold k_T at hT
    split at hT
    · rename_i hret
      rw [hret] at hr
      split at hT
      · exact W.vret B.exec B.bytes hr (fun t ht _ => ⟨⟨none, m', rfl, hQ _ _ hT, by rw [ht]; exact hp, fun v hv => by cases hv⟩, hS.F ht⟩) hS.2.2 hdec
      · exact hT.elim
    · rename_i hret
      rw [hret] at hr
      split at hT
      · rename_i a
        exact W.iret B.exec B.bytes hr (fun t ht _ => ⟨⟨some (.inl a), m', rfl, hQ _ _ hT, by rw [ht]; exact hp, fun v hv => by cases hv; exact hdec.1⟩, hS.F ht⟩) hS.2.2 hdec.2
      · exact hT.elim
    · rename_i hret
      rw [hret] at hr
      split at hT
      · rename_i a
        obtain ⟨h01, hT⟩ := hT
        exact W.zret B.exec B.bytes hr (by rcases h01 with rfl | rfl <;> decide) (fun t ht _ => ⟨⟨some (.inl a), m', rfl, hQ _ _ hT, by rw [ht]; exact hp, fun v hv => by cases hv; exact hdec.1⟩, hS.F ht⟩) hS.2.2 hdec.2
      · exact hT.elim
    · exact hT.elim
  have hW := H p e (k_rm h') s mm (as.map (rv ad)).toArray below meth c 0 0 _ ad (kAd E ad) hX
  have hl := lv_entry (as.map (rv ad)) (n := (MT M.1).2.2.1) (by rw [k_sl_len hV, m1]; exact hlen)
  rw [lg_entry_eq]
  generalize (lg_sl (as.map (rv ad)) ++ List.replicate ((MT M.1).2.2.1 - (lg_sl (as.map (rv ad))).length) Slot.unset).toArray = ls at hl ⊢
  have hpc : k_pc M 0 = 0 := by
    unfold k_pc
    rw [List.getD_eq_getElem?_getD] at m6 ⊢
    cases hq : M.2.2.2.2[0]? with
    | none => rw [hq] at m6; cases m6
    | some q => rw [hq] at m6; exact m6
  rw [hpc] at hW
  refine hW s.heap [] ls hH va_S.rf ⟨⟨by rw [hl.1, m1], hl.2.1, fun q hq => ?_⟩, by simp; omega, fun v hv => ?_⟩ (fun v hv => by cases hv)
  · obtain ⟨v, h1, h2⟩ := k_lv_in.mp hq
    by_cases hlt : q.1 < as.length
    · rw [List.getElem?_append_left (by simpa using hlt), List.getElem?_map] at h1
      cases ha : as[q.1]? with
      | none => rw [ha] at h1; cases h1
      | some w =>
        rw [ha] at h1
        have : w = v := by simpa using h1
        subst this
        have := hl.2.2 (0 + q.1, rv ad w) (k_args_in hV 0 q.1 w ha)
        rw [h2]
        simpa using this
    · rw [List.getElem?_append_right (by simpa using hlt)] at h1
      rw [List.getElem?_replicate] at h1
      split at h1 <;> cases h1
  · rcases List.mem_append.mp hv with h1 | h1
    · obtain ⟨w, h2, h3⟩ := List.mem_map.mp h1
      rw [← Option.some.inj h3]
      exact hV w h2
    · have := (List.mem_replicate.mp h1).2
      cases this
end
section
/-! bits of whole numbers -/
def bt (v : Int) (k : Nat) : Bool := (Int32.ofInt v).toBitVec.getLsbD k
theorem bt_of (z : Int32) (k : Nat) : bt z.toInt k = z.toBitVec.getLsbD k := by unfold bt; rw [k_ofInt_toInt]
theorem bt_ge (v : Int) {k : Nat} (h : 32 ≤ k) : bt v k = false := BitVec.getLsbD_of_ge _ _ h
theorem bt_and (a b : Int) (k : Nat) : bt (kand a b) k = (bt a k && bt b k) := by
  unfold kand
  rw [bt_of, Int32.toBitVec_and, BitVec.getLsbD_and]; rfl
theorem bt_or (a b : Int) (k : Nat) : bt (kor a b) k = (bt a k || bt b k) := by
  unfold kor
  rw [bt_of, Int32.toBitVec_or, BitVec.getLsbD_or]; rfl
theorem bt_xor (a b : Int) (k : Nat) : bt (kxor a b) k = (bt a k ^^ bt b k) := by
  unfold kxor
  rw [bt_of, Int32.toBitVec_xor, BitVec.getLsbD_xor]; rfl
theorem bt_ext {a b : Int} (ha : inR a) (hb : inR b) (h : ∀ k, k < 32 → bt a k = bt b k) : a = b := by
  have h1 : (Int32.ofInt a).toBitVec = (Int32.ofInt b).toBitVec := BitVec.eq_of_getLsbD_eq h
  have h2 := Int32.toBitVec.inj h1
  exact (k_eq ha hb).mp h2
theorem bt_zero (k : Nat) : bt 0 k = false := by
  unfold bt
  rw [show (Int32.ofInt 0).toBitVec = 0#32 from rfl]
  simp
theorem bt_neg1 {k : Nat} (h : k < 32) : bt (-1) k = true := by
  have : ∀ i : Fin 32, bt (-1) i.val = true := by decide +kernel
  exact this ⟨k, h⟩
theorem k_in_kand (a b : Int) : inR (kand a b) := k_in_toInt _
theorem k_in_kor (a b : Int) : inR (kor a b) := k_in_toInt _
theorem k_in_kxor (a b : Int) : inR (kxor a b) := k_in_toInt _
theorem k_in_kshl (a b : Int) : inR (kshl a b) := k_in_toInt _
theorem k_in_kshr (a b : Int) : inR (kshr a b) := k_in_toInt _
theorem k_in_kushr (a b : Int) : inR (kushr a b) := k_in_toInt _
theorem k_in_lit {a : Int} (h : -2147483648 ≤ a ∧ a ≤ 2147483647) : inR a := h
theorem k_fin {P : Int → Prop} {N : Nat} (h : ∀ i : Fin N, P (i.val : Int)) {x : Int} (h0 : 0 ≤ x) (h1 : x < N) : P x := by
  have := h ⟨x.toNat, by omega⟩
  rwa [show ((x.toNat : Nat) : Int) = x from Int.toNat_of_nonneg h0] at this
theorem k_amt {n : Int} (h0 : 0 ≤ n) (h1 : n < 32) : ((Int32.ofInt n &&& 31).toBitVec.smod 32).toNat = n.toNat := by
  have : ∀ i : Fin 32, ((Int32.ofInt (i.val : Int) &&& 31).toBitVec.smod 32).toNat = i.val := by decide +kernel
  have h2 := this ⟨n.toNat, by omega⟩
  rwa [show ((n.toNat : Nat) : Int) = n from Int.toNat_of_nonneg h0] at h2
theorem bt_shl {a n : Int} (h0 : 0 ≤ n) (h1 : n < 32) (k : Nat) : bt (kshl a n) k = (decide (k < 32) && !decide (k < n.toNat) && bt a (k - n.toNat)) := by
  unfold kshl
  rw [bt_of]
  show ((Int32.ofInt a).toBitVec <<< ((Int32.ofInt n &&& 31).toBitVec.smod 32)).getLsbD k = _
  rw [BitVec.shiftLeft_eq', k_amt h0 h1, BitVec.getLsbD_shiftLeft]
  rfl
theorem bt_shr {a n : Int} (h0 : 0 ≤ n) (h1 : n < 32) (k : Nat) : bt (kshr a n) k = (!decide (32 ≤ k) && if n.toNat + k < 32 then bt a (n.toNat + k) else bt a 31) := by
  unfold kshr
  rw [bt_of]
  show ((Int32.ofInt a).toBitVec.sshiftRight ((Int32.ofInt n &&& 31).toBitVec.smod 32).toNat).getLsbD k = _
  rw [k_amt h0 h1, BitVec.getLsbD_sshiftRight]
  rfl
theorem bt_one (k : Nat) : bt 1 k = decide (k = 0) := by
  by_cases h : k < 32
  · have : ∀ i : Fin 32, bt 1 i.val = decide (i.val = 0) := by decide +kernel
    exact this ⟨k, h⟩
  · rw [bt_ge 1 (by omega)]
    simp; omega
/-- one bit alone -/
theorem bt_bit {n : Int} (h0 : 0 ≤ n) (h1 : n < 32) (k : Nat) : bt (kshl 1 n) k = decide ((k : Int) = n) := by
  rw [bt_shl h0 h1, bt_one]
  by_cases h : (k : Int) = n
  · have : k = n.toNat := by omega
    subst this
    simp; omega
  · by_cases h2 : k < n.toNat
    · simp [h2, h]
    · have : k - n.toNat ≠ 0 := by omega
      simp [h, this]
/-- a bit asked for: v >> n & 1 -/
theorem k_ask {v n : Int} (h0 : 0 ≤ n) (h1 : n < 32) : kand (kshr v n) 1 = if bt v n.toNat then 1 else 0 := by
  have e : ∀ k, k < 32 → bt (kand (kshr v n) 1) k = bt (if bt v n.toNat then (1 : Int) else 0) k := by
    intro k hk
    rw [bt_and, bt_shr h0 h1, bt_one]
    by_cases hz : k = 0
    · subst hz
      have : n.toNat < 32 := by omega
      simp [this]
      cases bt v n.toNat
      · simp [bt_zero]
      · simp [bt_one]
    · simp [hz]
      cases bt v n.toNat
      · simp [bt_zero]
      · simp [bt_one, hz]
  refine bt_ext (k_in_kand _ _) ?_ e
  split
  · exact k_in_lit (by omega)
  · exact k_in_lit (by omega)
theorem k_ask0 {v n : Int} (h0 : 0 ≤ n) (h1 : n < 32) : kand (kshr v n) 1 = 0 ↔ bt v n.toNat = false := by
  rw [k_ask h0 h1]
  cases bt v n.toNat <;> simp
theorem k_and0 {a b : Int} : kand a b = 0 ↔ ∀ k, k < 32 → ¬ (bt a k = true ∧ bt b k = true) := by
  constructor
  · intro h k _ hk
    have := bt_and a b k
    rw [h, bt_zero, hk.1, hk.2] at this
    cases this
  · intro h
    refine bt_ext (k_in_kand _ _) k_inR0 (fun k hk => ?_)
    rw [bt_and, bt_zero]
    have := h k hk
    cases h1 : bt a k <;> cases h2 : bt b k <;> simp_all
theorem k_ne0 {a : Int} (ha : inR a) : a ≠ 0 ↔ ∃ k, k < 32 ∧ bt a k = true := by
  constructor
  · intro h
    refine Decidable.byContradiction (fun hn => h (bt_ext ha k_inR0 (fun k hk => ?_)))
    rw [bt_zero]
    cases hb : bt a k with
    | false => rfl
    | true => exact absurd ⟨k, hk, hb⟩ hn
  · rintro ⟨k, hk, hb⟩ rfl
    rw [bt_zero] at hb
    cases hb
/-- a number that has bits below 31 alone isn't negative, and is small -/
theorem bt_nat {v : Int} (hv : inR v) (h0 : 0 ≤ v) (k : Nat) : bt v k = v.toNat.testBit k := by
  unfold bt
  rw [← BitVec.testBit_toNat, Int32.toBitVec_ofInt, BitVec.toNat_ofInt]
  congr 1
  obtain ⟨h1, h2⟩ := hv
  have : v % ((2 ^ 32 : Nat) : Int) = v := Int.emod_eq_of_lt h0 (by omega)
  rw [this]
theorem bt_small {v : Int} {n : Nat} (hv : inR v) (h0 : 0 ≤ v) (h : v < 2 ^ n) {k : Nat} (hk : n ≤ k) : bt v k = false := by
  rw [bt_nat hv h0]
  refine Nat.testBit_lt_two_pow (Nat.lt_of_lt_of_le ?_ (Nat.pow_le_pow_right (by decide) hk))
  have : ((v.toNat : Nat) : Int) < ((2 ^ n : Nat) : Int) := by rw [Int.toNat_of_nonneg h0]; exact_mod_cast h
  exact_mod_cast this
def oppF (i : Int) : Int := if i = 0 then 2 else if i = 1 then 3 else if i = 2 then 0 else if i = 3 then 1 else if i = 4 then 5 else 4
end
section
/-! the board: cells by their numbers, their places, moves -/
def gX (w c : Int) : Int := c % w
def gY (w d c : Int) : Int := c / w % d
def gZ (w d c : Int) : Int := c / (w * d)
def ix (w d x y z : Int) : Int := z * (w * d) + y * w + x
abbrev okD (w d l : Int) : Prop := (2 ≤ w ∧ w ≤ 9) ∧ (2 ≤ d ∧ d ≤ 9) ∧ (1 ≤ l ∧ l ≤ 4)
abbrev inC (w d l c : Int) : Prop := 0 ≤ c ∧ c < w * d * l
theorem mb {a b A B : Int} (ha : 0 ≤ a ∧ a ≤ A) (hb : 0 ≤ b ∧ b ≤ B) : 0 ≤ a * b ∧ a * b ≤ A * B :=
  ⟨Int.mul_nonneg ha.1 hb.1, Int.mul_le_mul ha.2 hb.2 hb.1 (Int.le_trans ha.1 ha.2)⟩
theorem okD_floor {w d l : Int} (h : okD w d l) : 4 ≤ w * d ∧ w * d ≤ 81 := by
  obtain ⟨⟨h1, h2⟩, ⟨h3, h4⟩, -⟩ := h
  have a := mb (a := w) (b := d) (A := 9) (B := 9) ⟨by omega, h2⟩ ⟨by omega, h4⟩
  have b : 2 * 2 ≤ w * d := Int.mul_le_mul h1 h3 (by omega) (by omega)
  omega
theorem okD_cells {w d l : Int} (h : okD w d l) : 4 ≤ w * d * l ∧ w * d * l ≤ 324 := by
  have hf := okD_floor h
  obtain ⟨-, -, h5, h6⟩ := h
  have a := mb (a := w * d) (b := l) (A := 81) (B := 4) ⟨by omega, hf.2⟩ ⟨by omega, h6⟩
  have b : 4 * 1 ≤ w * d * l := Int.mul_le_mul hf.1 h5 (by omega) (by omega)
  omega
theorem ix_low {w d x y : Int} (hx : 0 ≤ x ∧ x < w) (hy : 0 ≤ y ∧ y < d) : 0 ≤ y * w + x ∧ y * w + x < w * d := by
  have h1 : 0 ≤ y * w := Int.mul_nonneg hy.1 (by omega)
  have h2 : (y + 1) * w ≤ d * w := Int.mul_le_mul_of_nonneg_right (by omega) (by omega)
  rw [Int.add_mul, Int.one_mul, Int.mul_comm d w] at h2
  omega
theorem ix_in {w d l x y z : Int} (hx : 0 ≤ x ∧ x < w) (hy : 0 ≤ y ∧ y < d) (hz : 0 ≤ z ∧ z < l) : inC w d l (ix w d x y z) := by
  have h := ix_low hx hy
  have hp : 0 ≤ w * d := by omega
  have h1 : 0 ≤ z * (w * d) := Int.mul_nonneg hz.1 hp
  have h2 : (z + 1) * (w * d) ≤ l * (w * d) := Int.mul_le_mul_of_nonneg_right (by omega) hp
  rw [Int.add_mul, Int.one_mul, Int.mul_comm l (w * d)] at h2
  unfold ix
  constructor <;> omega
theorem ix_X {w d x y z : Int} (hx : 0 ≤ x ∧ x < w) : gX w (ix w d x y z) = x := by
  unfold gX ix
  rw [show z * (w * d) + y * w + x = x + w * (z * d + y) by rw [Int.mul_add, Int.mul_comm w y, ← Int.mul_assoc w z d, Int.mul_comm w z, Int.mul_assoc z w d]; omega, Int.add_mul_emod_self_left]
  exact Int.emod_eq_of_lt hx.1 hx.2
theorem ix_Y {w d x y z : Int} (hx : 0 ≤ x ∧ x < w) (hy : 0 ≤ y ∧ y < d) : gY w d (ix w d x y z) = y := by
  unfold gY ix
  rw [show z * (w * d) + y * w + x = x + w * (z * d + y) by rw [Int.mul_add, Int.mul_comm w y, ← Int.mul_assoc w z d, Int.mul_comm w z, Int.mul_assoc z w d]; omega, Int.add_mul_ediv_left _ _ (by omega), Int.ediv_eq_zero_of_lt hx.1 hx.2]
  rw [show 0 + (z * d + y) = y + d * z by rw [Int.mul_comm z d]; omega, Int.add_mul_emod_self_left]
  exact Int.emod_eq_of_lt hy.1 hy.2
theorem ix_Z {w d x y z : Int} (hx : 0 ≤ x ∧ x < w) (hy : 0 ≤ y ∧ y < d) : gZ w d (ix w d x y z) = z := by
  have h := ix_low hx hy
  unfold gZ ix
  rw [show z * (w * d) + y * w + x = (y * w + x) + (w * d) * z by rw [Int.mul_comm z (w * d)]; omega, Int.add_mul_ediv_left _ _ (by omega), Int.ediv_eq_zero_of_lt h.1 h.2]
  omega
theorem gX_in {w d l c : Int} (hD : okD w d l) : 0 ≤ gX w c ∧ gX w c < w := ⟨Int.emod_nonneg _ (by omega), Int.emod_lt_of_pos _ (by omega)⟩
theorem gY_in {w d l c : Int} (hD : okD w d l) : 0 ≤ gY w d c ∧ gY w d c < d := ⟨Int.emod_nonneg _ (by omega), Int.emod_lt_of_pos _ (by omega)⟩
theorem gZ_in {w d l c : Int} (hD : okD w d l) (hc : inC w d l c) : 0 ≤ gZ w d c ∧ gZ w d c < l := by
  have hf := okD_floor hD
  refine ⟨Int.ediv_nonneg hc.1 (by omega), Int.ediv_lt_of_lt_mul (by omega) ?_⟩
  rw [Int.mul_comm]; exact hc.2
theorem ix_eta {w d l : Int} (hD : okD w d l) (c : Int) : ix w d (gX w c) (gY w d c) (gZ w d c) = c := by
  unfold ix gX gY gZ
  have h1 := Int.mul_ediv_add_emod c w
  have h2 := Int.mul_ediv_add_emod (c / w) d
  have h3 : c / (w * d) = c / w / d := by
    rw [Int.ediv_ediv]
    rw [if_neg (by omega)]; omega
  rw [h3]
  generalize c / w / d = q at *
  generalize c / w % d = r at *
  generalize c % w = x at *
  have h4 : q * (w * d) + r * w = w * (c / w) := by
    rw [← h2, Int.mul_add, Int.mul_comm r w, ← Int.mul_assoc w d q, Int.mul_comm q (w * d)]
  omega
/-- a cell is told by its places -/
theorem g_ext {w d l a b : Int} (hD : okD w d l) (h1 : gX w a = gX w b) (h2 : gY w d a = gY w d b) (h3 : gZ w d a = gZ w d b) : a = b := by
  rw [← ix_eta hD a, ← ix_eta hD b, h1, h2, h3]
def dX (k : Int) : Int := if k = 1 then 1 else if k = 3 then -1 else 0
def dY (k : Int) : Int := if k = 2 then 1 else if k = 0 then -1 else 0
def dZ (k : Int) : Int := if k = 4 then 1 else if k = 5 then -1 else 0
/-- the cell that a move leads to, or -1 -/
def nx (w d l c k : Int) : Int :=
  if (0 ≤ gX w c + dX k ∧ gX w c + dX k < w) ∧ (0 ≤ gY w d c + dY k ∧ gY w d c + dY k < d) ∧ (0 ≤ gZ w d c + dZ k ∧ gZ w d c + dZ k < l)
  then ix w d (gX w c + dX k) (gY w d c + dY k) (gZ w d c + dZ k) else -1
theorem nx_cases (w d l c k : Int) : nx w d l c k = -1 ∨ ((0 ≤ gX w c + dX k ∧ gX w c + dX k < w) ∧ (0 ≤ gY w d c + dY k ∧ gY w d c + dY k < d) ∧ (0 ≤ gZ w d c + dZ k ∧ gZ w d c + dZ k < l) ∧ nx w d l c k = ix w d (gX w c + dX k) (gY w d c + dY k) (gZ w d c + dZ k)) := by
  unfold nx
  split
  · rename_i h; exact Or.inr ⟨h.1, h.2.1, h.2.2, rfl⟩
  · exact Or.inl rfl
theorem nx_in {w d l c k : Int} (h : nx w d l c k ≠ -1) : inC w d l (nx w d l c k) ∧ gX w (nx w d l c k) = gX w c + dX k ∧ gY w d (nx w d l c k) = gY w d c + dY k ∧ gZ w d (nx w d l c k) = gZ w d c + dZ k := by
  rcases nx_cases w d l c k with h1 | ⟨h1, h2, h3, h4⟩
  · exact absurd h1 h
  · rw [h4]
    exact ⟨ix_in h1 h2 h3, ix_X h1, ix_Y h1 h2, ix_Z h1 h2⟩
theorem nx_ne {w d l c k : Int} (h : 0 ≤ nx w d l c k) : nx w d l c k ≠ -1 := by omega
theorem nx_val {w d l c k : Int} (h : nx w d l c k ≠ -1) (hD : okD w d l) : nx w d l c k = c + dX k + dY k * w + dZ k * (w * d) := by
  rcases nx_cases w d l c k with h1 | ⟨h1, h2, h3, h4⟩
  · exact absurd h1 h
  · rw [h4]
    have := ix_eta hD c
    unfold ix at *
    rw [Int.add_mul, Int.add_mul]
    omega
theorem nx_of {w d l c k : Int} (h : (0 ≤ gX w c + dX k ∧ gX w c + dX k < w) ∧ (0 ≤ gY w d c + dY k ∧ gY w d c + dY k < d) ∧ (0 ≤ gZ w d c + dZ k ∧ gZ w d c + dZ k < l)) : nx w d l c k ≠ -1 := by
  have h5 := ix_in h.1 h.2.1 h.2.2
  unfold nx
  rw [if_pos h]
  omega
theorem dX_opp (k : Int) (h : 0 ≤ k ∧ k < 6) : dX (oppF k) = -dX k ∧ dY (oppF k) = -dY k ∧ dZ (oppF k) = -dZ k ∧ 0 ≤ oppF k ∧ oppF k < 6 ∧ oppF (oppF k) = k := by
  have : ∀ i : Fin 6, dX (oppF (i.val : Int)) = -dX (i.val : Int) ∧ dY (oppF (i.val : Int)) = -dY (i.val : Int) ∧ dZ (oppF (i.val : Int)) = -dZ (i.val : Int) ∧ 0 ≤ oppF (i.val : Int) ∧ oppF (i.val : Int) < 6 ∧ oppF (oppF (i.val : Int)) = (i.val : Int) := by decide +kernel
  exact k_fin (P := fun k => dX (oppF k) = -dX k ∧ dY (oppF k) = -dY k ∧ dZ (oppF k) = -dZ k ∧ 0 ≤ oppF k ∧ oppF k < 6 ∧ oppF (oppF k) = k) this h.1 (by omega)
/-- a move back -/
theorem nx_opp {w d l c k : Int} (hD : okD w d l) (hc : inC w d l c) (hk : 0 ≤ k ∧ k < 6) (h : nx w d l c k ≠ -1) : nx w d l (nx w d l c k) (oppF k) = c := by
  obtain ⟨h1, h2, h3, h4⟩ := nx_in h
  obtain ⟨o1, o2, o3, -⟩ := dX_opp k hk
  have hx := gX_in (c := c) hD
  have hy := gY_in (c := c) hD
  have hz := gZ_in hD hc
  have hn : nx w d l (nx w d l c k) (oppF k) ≠ -1 := nx_of ⟨by rw [h2, o1]; omega, by rw [h3, o2]; omega, by rw [h4, o3]; omega⟩
  obtain ⟨-, g2, g3, g4⟩ := nx_in hn
  exact g_ext hD (by rw [g2, h2, o1]; omega) (by rw [g3, h3, o2]; omega) (by rw [g4, h4, o3]; omega)
end
section
/-! the objects of both sides, numbered as they are made (written by wip/whole/graph.py); n: cells of the board, ly: layers -/
def G0 (n ly : Nat) : Gr := [
  .inl (11, [some 1, some 6, some 9, some 22, some 30, some 37, some 40, some 41, some 45, some 46, some 51]),
  .inl (2, [none, none, none, none, none, some 2, some 3, some 4, some 5]),
  .inr (0, n * 6),
  .inr (0, n),
  .inr (0, n),
  .inr (0, n),
  .inl (8, [none, some 7, some 8, none, none, none]),
  .inr (0, 80),
  .inr (0, 5),
  .inl (3, [some 1, some 10, some 11, some 12, some 13, some 14, some 15, some 16, some 17, some 18, some 19, some 20, some 21, none, none]),
  .inr (0, 30),
  .inr (0, 8),
  .inr (0, 8),
  .inr (0, 8),
  .inr (0, 32),
  .inr (0, n),
  .inr (0, n),
  .inr (0, n),
  .inr (0, n * 8),
  .inr (0, n * 8),
  .inr (0, n),
  .inr (0, n * 8),
  .inl (6, [some 1, some 9, some 24, some 25, some 26, some 27, some 28, some 29, some 23, none]),
  .inr (0, 3),
  .inr (0, n),
  .inr (0, n),
  .inr (0, n),
  .inr (0, n),
  .inr (0, n),
  .inr (0, n),
  .inl (7, [some 1, some 9, some 22, some 31, some 32, some 33, some 34, some 35, some 36, none, none, none, none, none, none]),
  .inr (0, n),
  .inr (0, n),
  .inr (0, n),
  .inr (0, n * 5),
  .inr (0, n * 5),
  .inr (0, n * 5),
  .inl (5, [some 1, some 9, some 22, some 30, some 38, some 39]),
  .inr (0, n),
  .inr (0, n),
  .inl (1, [some 1, some 9, some 22, some 30]),
  .inl (10, [some 1, some 9, some 22, some 42, some 43, some 44, none, none, none, none, none]),
  .inr (0, 3),
  .inr (0, 3),
  .inr (0, 3),
  .inl (4, [some 1, some 9, some 22, none, none]),
  .inl (0, [some 1, some 9, some 47, none, none, some 48, some 49, some 50, none]),
  .inr (0, ly + 1),
  .inr (0, n),
  .inr (0, n),
  .inr (0, n),
  .inl (9, [some 1, some 9, some 22, some 52, some 53, none]),
  .inr (0, n + 1),
  .inr (0, n + 1),
  .inl (12, [none, none, none, none, some 55, none, none, none, some 56, some 57, some 58, some 59, some 60, none, none, some 61, some 62, some 63, some 64, some 65, some 66, some 67, some 68, some 69, some 70, some 71, none, some 72, none, none, none, some 73, some 74, none, some 75, some 76, some 77, some 78, some 79, some 80, some 81, none, some 82, some 83, some 84, some 85, some 86, none, none, some 87, some 88, some 89, some 90, some 91]),
  .inr (0, 80),
  .inr (0, 7),
  .inr (0, 7),
  .inr (0, 7),
  .inr (0, 7),
  .inr (0, 7),
  .inr (0, 8),
  .inr (0, 8),
  .inr (0, 8),
  .inr (0, 32),
  .inr (0, 8),
  .inr (0, 9600),
  .inr (0, 9600),
  .inr (0, 8),
  .inr (0, 19200),
  .inr (0, 19200),
  .inr (1, 324),
  .inr (0, 2592),
  .inr (0, 2400),
  .inr (0, 2400),
  .inr (0, 19200),
  .inr (0, 19200),
  .inr (0, 8),
  .inr (1, 324),
  .inr (0, 1620),
  .inr (1, 324),
  .inr (0, 324),
  .inr (0, 324),
  .inr (1, 324),
  .inr (0, 324),
  .inr (1, 81),
  .inr (0, 81),
  .inr (0, 2592),
  .inr (0, 5),
  .inr (0, 19200),
  .inr (0, 19200),
  .inr (0, 8),
  .inr (2, 1)]
def letF (i : Int) : Int := if i = 0 then 115 else if i = 1 then 118 else if i = 2 then 98 else if i = 3 then 99 else 108
def leaF (i : Int) : Int := if i = 0 then 1 else 0
def mosF (i : Int) : Int := if i = 0 then 9 else if i = 1 then 99 else if i = 2 then 99 else 2
def usuF (i : Int) : Int := if i = 0 then 1 else if i = 1 then 5 else 0
/-- the read-only arrays: OPPOSITE, LETTERS, LEAST, MOST, USUAL, the script -/
def RO0 (len : Nat) (xs : Int → Int) : Ro := [(0, 6, oppF), (3, 5, letF), (0, 4, leaF), (0, 4, mosF), (0, 4, usuF), (0, len, xs)]
/-- what all contracts speak of: the launch, the tables' numbers, cells, layers, the script -/
abbrev Xv : Type := Launch × va_G × (Nat → ClassId) × Nat × Nat × Nat × (Int → Int)
abbrev eX (X : Xv) : Ev := (X.1, X.2.1, X.2.2.1, G0 X.2.2.2.1 X.2.2.2.2.1, RO0 X.2.2.2.2.2.1 X.2.2.2.2.2.2)
abbrev nC (X : Xv) : Nat := X.2.2.2.1
abbrev nL (X : Xv) : Nat := X.2.2.2.2.1
end
section
/-! the reference's small methods -/
abbrev cP (z : Int) (m : Mem) : Option AV → Mem → Prop := fun r m' => r = some (vI z) ∧ m' = m
def b2i (p : Prop) [Decidable p] : Int := if p then 1 else 0
theorem b2i_t {p : Prop} [Decidable p] (h : p) : b2i p = 1 := by simp [b2i, h]
theorem b2i_f {p : Prop} [Decidable p] (h : ¬ p) : b2i p = 0 := by simp [b2i, h]
theorem c_X12_in (E : Ev) (m : Mem) (v lo hi : Int) : kCall E 1 M_X12_in.1 [vI v, vI lo, vI hi] m (cP (b2i (lo ≤ v ∧ v ≤ hi)) m) := by
  refine kCall_of ok_X12_in rfl (Nat.le_of_ble_eq_true rfl) ?_
  refine kW_go ok_X12_in [] 10 ?_
  refine And.intro (fun h1 => ?_) (fun h1 => And.intro (fun h2 => ?_) (fun h2 => ?_))
  · rw [b2i_f (by omega)]
    exact ⟨Or.inl rfl, rfl, rfl⟩
  · rw [b2i_f (by omega)]
    exact ⟨Or.inl rfl, rfl, rfl⟩
  · rw [b2i_t (by omega)]
    exact ⟨Or.inr rfl, rfl, rfl⟩
theorem c_X12_within (E : Ev) (m : Mem) (v lo hi : Int) : kCall E 1 M_X12_within.1 [vI v, vI lo, vI hi] m (cP (max lo (min hi v)) m) := by
  refine kCall_of ok_X12_within rfl (Nat.le_of_ble_eq_true rfl) ?_
  refine kW_go ok_X12_within [] 10 ?_
  exact ⟨rfl, rfl⟩
theorem c_X12_cell (E : Ev) (m : Mem) (x y l : Int) (hx : 0 ≤ x ∧ x ≤ 100) (hy : 0 ≤ y ∧ y ≤ 100) (hl : 0 ≤ l ∧ l ≤ 100) : kCall E 1 M_X12_cell.1 [vI x, vI y, vI l] m (cP (81 * l + 9 * y + x) m) := by
  refine kCall_of ok_X12_cell rfl (Nat.le_of_ble_eq_true rfl) ?_
  refine kW_go ok_X12_cell [] 10 ?_
  refine ⟨by omega, by omega, by omega, by omega, ?_⟩
  exact ⟨rfl, rfl⟩
theorem c_X12_xOf (E : Ev) (m : Mem) (c : Int) (hc : 0 ≤ c) : kCall E 1 M_X12_xOf.1 [vI c] m (cP (c % 9) m) := by
  refine kCall_of ok_X12_xOf rfl (Nat.le_of_ble_eq_true rfl) ?_
  refine kW_go ok_X12_xOf [] 10 ?_
  refine ⟨by decide, ?_⟩
  rw [← Int.tmod_eq_emod_of_nonneg hc]
  exact ⟨rfl, rfl⟩
theorem c_X12_yOf (E : Ev) (m : Mem) (c : Int) (hc : 0 ≤ c) (hc2 : c ≤ 2147483647) : kCall E 1 M_X12_yOf.1 [vI c] m (cP (c / 9 % 9) m) := by
  refine kCall_of ok_X12_yOf rfl (Nat.le_of_ble_eq_true rfl) ?_
  refine kW_go ok_X12_yOf [] 10 ?_
  have h1 : c.tdiv 9 = c / 9 := Int.tdiv_eq_ediv_of_nonneg hc
  refine ⟨by decide, by rw [h1]; constructor <;> omega, by decide, ?_⟩
  rw [← Int.tmod_eq_emod_of_nonneg (by omega : 0 ≤ c / 9), ← h1]
  exact ⟨rfl, rfl⟩
theorem c_X12_layerOf (E : Ev) (m : Mem) (c : Int) (hc : 0 ≤ c) (hc2 : c ≤ 2147483647) : kCall E 1 M_X12_layerOf.1 [vI c] m (cP (c / 81) m) := by
  refine kCall_of ok_X12_layerOf rfl (Nat.le_of_ble_eq_true rfl) ?_
  refine kW_go ok_X12_layerOf [] 10 ?_
  have h1 : c.tdiv 81 = c / 81 := Int.tdiv_eq_ediv_of_nonneg hc
  refine ⟨by decide, by rw [h1]; constructor <;> omega, ?_⟩
  rw [← h1]
  exact ⟨rfl, rfl⟩
/-- the reference's own numbers of the board -/
def dimM (m : Mem) (w d l : Int) : Prop := fld m 54 1 = w ∧ fld m 54 2 = d ∧ fld m 54 3 = l ∧ (2 ≤ w ∧ w ≤ 9) ∧ (2 ≤ d ∧ d ≤ 9) ∧ (1 ≤ l ∧ l ≤ 4)
theorem c_X12_isCell (X : Xv) (m : Mem) {w d l : Int} (hd : dimM m w d l) (x y z : Int) : kCall (eX X) 2 M_X12_isCell.1 [vR 54, vI x, vI y, vI z] m (cP (b2i ((0 ≤ x ∧ x < w) ∧ (0 ≤ y ∧ y < d) ∧ (0 ≤ z ∧ z < l))) m) := by
  obtain ⟨hw, hdd, hl, h1, h2, h3⟩ := hd
  refine kCall_of ok_X12_isCell rfl (Nat.le_of_ble_eq_true rfl) ?_
  refine kW_go ok_X12_isCell [] 10 ?_
  refine ⟨by rw [hw]; omega, ?_⟩
  refine kCall_mono (c_X12_in (eX X) m x 0 (fld m 54 1 - 1)) (Nat.le_refl _) ?_
  rintro _ _ ⟨rfl, rfl⟩
  refine And.intro (fun g1 => ?_) (fun g1 => ⟨by rw [hdd]; omega, ?_⟩)
  · rw [b2i_f (by intro q; rw [b2i_t (by omega)] at g1; cases g1)]
    exact ⟨Or.inl rfl, rfl, rfl⟩
  refine kCall_mono (c_X12_in (eX X) _ y 0 (fld _ 54 2 - 1)) (Nat.le_refl _) ?_
  rintro _ _ ⟨rfl, rfl⟩
  refine And.intro (fun g2 => ?_) (fun g2 => ⟨by rw [hl]; omega, ?_⟩)
  · rw [b2i_f (by intro q; rw [b2i_t (by omega)] at g2; cases g2)]
    exact ⟨Or.inl rfl, rfl, rfl⟩
  refine kCall_mono (c_X12_in (eX X) _ z 0 (fld _ 54 3 - 1)) (Nat.le_refl _) ?_
  rintro _ _ ⟨rfl, rfl⟩
  refine And.intro (fun g3 => ?_) (fun g3 => ?_)
  · rw [b2i_f (by intro q; rw [b2i_t (by omega)] at g3; cases g3)]
    exact ⟨Or.inl rfl, rfl, rfl⟩
  · have e1 : 0 ≤ x ∧ x ≤ fld _ 54 1 - 1 := Decidable.byContradiction (fun q => g1 (b2i_f q))
    have e2 : 0 ≤ y ∧ y ≤ fld _ 54 2 - 1 := Decidable.byContradiction (fun q => g2 (b2i_f q))
    have e3 : 0 ≤ z ∧ z ≤ fld _ 54 3 - 1 := Decidable.byContradiction (fun q => g3 (b2i_f q))
    rw [b2i_t (by omega)]
    exact ⟨Or.inr rfl, rfl, rfl⟩
end
section
/-! the JDK's methods: fill, bitCount, reverse, numberOfTrailingZeros -/
theorem k_len_of {G : Gr} {RO : Ro} {o t n : Nat} {K : Nat → Prop} (ho : o < 1000) (hG : G[o]? = some (.inr (t, n))) (h : K n) : k_len G RO o K := by
  unfold k_len
  rw [show Nat.blt o 1000 = true from Nat.ble_eq_true_of_le ho, hG]
  exact h
theorem k_wr_of {G : Gr} {o ty n : Nat} {K : Nat → Prop} (hG : G[o]? = some (.inr (ty, n))) (h : K n) : k_wr G o ty K := by
  unfold k_wr
  rw [hG]
  show k_if (Nat.beq ty ty) (K n)
  rw [show Nat.beq ty ty = true from Nat.beq_refl ty]
  exact h
def mfill (m : Mem) (o : Nat) (lo hi v : Int) : Mem := fun p => if p = o then (fun j => if lo ≤ j ∧ j < hi then v else m o j) else m p
theorem mfill_e (m : Mem) (o : Nat) (lo v : Int) : mfill m o lo lo v = m := by
  funext p j
  unfold mfill
  split
  · rename_i h
    subst h
    simp only
    rw [if_neg (by omega)]
  · rfl
theorem mfill_s (m : Mem) (o : Nat) (lo hi v : Int) (h : lo ≤ hi) : mset (mfill m o lo hi v) o hi v = mfill m o lo (hi + 1) v := by
  funext p j
  unfold mset mfill
  by_cases hp : p = o
  · simp only [hp, if_true]
    by_cases hj : j = hi
    · rw [if_pos hj, if_pos (by omega)]
    · rw [if_neg hj]
      by_cases h2 : lo ≤ j ∧ j < hi
      · rw [if_pos h2, if_pos (by omega)]
      · rw [if_neg h2, if_neg (by omega)]
  · simp only [hp, if_false]
theorem mfill_ne {m : Mem} {o p : Nat} {lo hi v : Int} (h : p ≠ o) : mfill m o lo hi v p = m p := by simp [mfill, h]
theorem mfill_at {m : Mem} {o : Nat} {lo hi v j : Int} : mfill m o lo hi v o j = if lo ≤ j ∧ j < hi then v else m o j := by simp [mfill]
set_option maxRecDepth 100000 in
theorem c_fill (E : Ev) (m : Mem) (o n : Nat) (v : Int) (ho : o < 1000) (hG : E.2.2.2.1[o]? = some (.inr (0, n))) (hn : n ≤ 2147483646) : kCall E 1 M_J7_fill_53178.1 [vR o, vI v] m (fun r m' => r = none ∧ m' = mfill m o 0 n v) := by
  refine kCall_of ok_J7_fill_53178 rfl (Nat.le_of_ble_eq_true rfl) ?_
  obtain ⟨T, hT⟩ : ∃ T, T = k_T M_J7_fill_53178.2.2.2.1 (fun r m' => r = none ∧ m' = mfill m o 0 n v) := ⟨_, rfl⟩
  rw [← hT]
  have loop : ∀ (k : Nat) (i : Int), 0 ≤ i → i + k = n → kW E 0 M_J7_fill_53178 T 1 [some (vR o), some (vI v), some (vI i), some (vI n)] [] (mfill m o 0 i v) := by
    intro k
    induction k with
    | zero =>
      intro i h0 h1
      refine kW_go ok_J7_fill_53178 [1] 10 ?_
      refine And.intro (fun h2 => ?_) (fun h2 => absurd h2 (by omega))
      rw [show i = n by omega, hT]
      exact ⟨rfl, rfl⟩
    | succ k ih =>
      intro i h0 h1
      refine kW_go ok_J7_fill_53178 [1] 10 ?_
      refine And.intro (fun h2 => absurd h2 (by omega)) (fun h2 => ?_)
      refine k_wr_of hG ?_
      refine ⟨⟨h0, by omega⟩, by omega, ?_⟩
      have := ih (i + 1) (by omega) (by omega)
      rw [← mfill_s m o 0 i v h0] at this
      exact this
  refine kW_go ok_J7_fill_53178 [1] 10 ?_
  refine k_len_of ho hG ?_
  have := loop n 0 (by omega) (by omega)
  rw [mfill_e] at this
  exact this
theorem c_rangeCheck (E : Ev) (m : Mem) (n lo hi : Int) (h : 0 ≤ lo ∧ lo ≤ hi ∧ hi ≤ n) : kCall E 1 M_J7_rangeCheck_23922.1 [vI n, vI lo, vI hi] m (fun r m' => r = none ∧ m' = m) := by
  refine kCall_of ok_J7_rangeCheck_23922 rfl (Nat.le_of_ble_eq_true rfl) ?_
  refine kW_go ok_J7_rangeCheck_23922 [] 10 ?_
  refine And.intro (fun _ => And.intro (fun _ => And.intro (fun _ => ⟨rfl, rfl⟩) (fun h2 => absurd h2 (by omega))) (fun h2 => absurd h2 (by omega))) (fun h2 => absurd h2 (by omega))
set_option maxRecDepth 100000 in
theorem c_fill4 (E : Ev) (m : Mem) (o n : Nat) (lo hi v : Int) (ho : o < 1000) (hG : E.2.2.2.1[o]? = some (.inr (0, n))) (hn : n ≤ 2147483646) (h : 0 ≤ lo ∧ lo ≤ hi ∧ hi ≤ n) : kCall E 2 M_J7_fill_fda19.1 [vR o, vI lo, vI hi, vI v] m (fun r m' => r = none ∧ m' = mfill m o lo hi v) := by
  refine kCall_of ok_J7_fill_fda19 rfl (Nat.le_of_ble_eq_true rfl) ?_
  obtain ⟨T, hT⟩ : ∃ T, T = k_T M_J7_fill_fda19.2.2.2.1 (fun r m' => r = none ∧ m' = mfill m o lo hi v) := ⟨_, rfl⟩
  rw [← hT]
  have loop : ∀ (k : Nat) (i : Int), lo ≤ i → i + k = hi → kW E 1 M_J7_fill_fda19 T 1 [some (vR o), some (vI lo), some (vI hi), some (vI v), some (vI i)] [] (mfill m o lo i v) := by
    intro k
    induction k with
    | zero =>
      intro i h0 h1
      refine kW_go ok_J7_fill_fda19 [1] 10 ?_
      refine And.intro (fun h2 => ?_) (fun h2 => absurd h2 (by omega))
      rw [show i = hi by omega, hT]
      exact ⟨rfl, rfl⟩
    | succ k ih =>
      intro i h0 h1
      refine kW_go ok_J7_fill_fda19 [1] 10 ?_
      refine And.intro (fun h2 => absurd h2 (by omega)) (fun h2 => ?_)
      refine k_wr_of hG ?_
      refine ⟨⟨by omega, by omega⟩, by omega, ?_⟩
      have := ih (i + 1) (by omega) (by omega)
      rw [← mfill_s m o lo i v h0] at this
      exact this
  refine kW_go ok_J7_fill_fda19 [1] 10 ?_
  refine k_len_of ho hG ?_
  refine kCall_mono (c_rangeCheck E m n lo hi h) (Nat.le_refl _) ?_
  rintro _ _ ⟨rfl, rfl⟩
  have := loop (hi - lo).toNat lo (by omega) (by omega)
  rw [mfill_e] at this
  exact this
/-- how many bits, of a small number -/
def pop (x : Int) : Int := x % 2 + x / 2 % 2 + x / 4 % 2 + x / 8 % 2 + x / 16 % 2 + x / 32 % 2 + x / 64 % 2 + x / 128 % 2
def bcF (x : Int) : Int :=
  let x1 := w32 (x - kand (kushr x 1) 1431655765)
  let x2 := w32 (kand x1 858993459 + kand (kushr x1 2) 858993459)
  let x3 := kand (w32 (x2 + kushr x2 4)) 252645135
  let x4 := w32 (x3 + kushr x3 8)
  let x5 := w32 (x4 + kushr x4 16)
  kand x5 63
theorem bcF_pop : ∀ i : Fin 256, bcF (i.val : Int) = pop (i.val : Int) := by decide +kernel
theorem c_bitCount (E : Ev) (m : Mem) (x : Int) (h0 : 0 ≤ x) (h1 : x < 256) : kCall E 1 M_J6_bitCount_0f7a4.1 [vI x] m (cP (pop x) m) := by
  refine kCall_of ok_J6_bitCount_0f7a4 rfl (Nat.le_of_ble_eq_true rfl) ?_
  refine kW_go ok_J6_bitCount_0f7a4 [] 10 ?_
  exact ⟨congrArg (fun z => some (vI z)) (show bcF x = pop x from k_fin (P := fun x => bcF x = pop x) bcF_pop h0 h1), rfl⟩
def rbF (x : Int) : Int := kor (kor (kor (kshl x 24) (kshl (kand x 65280) 8)) (kand (kushr x 8) 65280)) (kushr x 24)
def rvF (x : Int) : Int :=
  let x1 := kor (kshl (kand x 1431655765) 1) (kand (kushr x 1) 1431655765)
  let x2 := kor (kshl (kand x1 858993459) 2) (kand (kushr x1 2) 858993459)
  let x3 := kor (kshl (kand x2 252645135) 4) (kand (kushr x2 4) 252645135)
  rbF x3
theorem c_reverseBytes (E : Ev) (m : Mem) (x : Int) : kCall E 1 M_J6_reverseBytes_0f7a4.1 [vI x] m (cP (rbF x) m) := by
  refine kCall_of ok_J6_reverseBytes_0f7a4 rfl (Nat.le_of_ble_eq_true rfl) ?_
  refine kW_go ok_J6_reverseBytes_0f7a4 [] 10 ?_
  exact ⟨rfl, rfl⟩
theorem c_reverse (E : Ev) (m : Mem) (x : Int) : kCall E 2 M_J6_reverse_0f7a4.1 [vI x] m (cP (rvF x) m) := by
  refine kCall_of ok_J6_reverse_0f7a4 rfl (Nat.le_of_ble_eq_true rfl) ?_
  refine kW_go ok_J6_reverse_0f7a4 [] 10 ?_
  refine kCall_mono (c_reverseBytes E m _) (Nat.le_refl _) ?_
  rintro _ _ ⟨rfl, rfl⟩
  exact ⟨rfl, rfl⟩
/-- the number of zeros below the lowest bit, of a small number (32 of 0) -/
def ntz (x : Int) : Int := if x = 0 then 32 else if x % 2 = 1 then 0 else if x % 4 = 2 then 1 else if x % 8 = 4 then 2 else if x % 16 = 8 then 3 else if x % 32 = 16 then 4 else if x % 64 = 32 then 5 else if x % 128 = 64 then 6 else 7
def nzA (x : Int) : Int := kand (kxor x (-1)) (w32 (x - 1))
def nzB (y : Int) : Int := if 16 < y then kushr y 4 else y
def nzC (y : Int) : Int := if 4 < y then kushr y 2 else y
def nzF (x : Int) : Int := if 0 < nzA x then w32 (1 + (if 16 < nzA x then 4 else 0) + (if 4 < nzB (nzA x) then 2 else 0) + kushr (nzC (nzB (nzA x))) 1) else kand (nzA x) 32
theorem nzF_ntz : ∀ i : Fin 256, nzF (i.val : Int) = ntz (i.val : Int) ∧ nzA (i.val : Int) ≤ 256 := by decide +kernel
theorem c_ntz (E : Ev) (m : Mem) (x : Int) (h0 : 0 ≤ x) (h1 : x < 256) : kCall E 1 M_J6_numberOfTrailingZeros_0f7a4.1 [vI x] m (cP (ntz x) m) := by
  obtain ⟨e1, e2⟩ := k_fin (P := fun x => nzF x = ntz x ∧ nzA x ≤ 256) nzF_ntz h0 h1
  rw [← e1]
  refine kCall_of ok_J6_numberOfTrailingZeros_0f7a4 rfl (Nat.le_of_ble_eq_true rfl) ?_
  refine kW_go ok_J6_numberOfTrailingZeros_0f7a4 [] 10 ?_
  refine And.intro (fun g1 => ?_) (fun g1 => ?_)
  · have g1 : 0 < nzA x := g1
    refine And.intro (fun _ => ?_) (fun g2 => absurd (show (65536 : Int) < nzA x from g2) (by omega))
    refine And.intro (fun _ => ?_) (fun g2 => absurd (show (256 : Int) < nzA x from g2) (by omega))
    refine And.intro (fun g2 => ?_) (fun g2 => ⟨by decide, ?_⟩)
    · have g2 : nzA x ≤ 16 := g2
      refine And.intro (fun g3 => ?_) (fun g3 => ⟨by decide, ?_⟩)
      · have g3 : nzA x ≤ 4 := g3
        refine ⟨congrArg (fun z => some (vI z)) ?_, rfl⟩
        unfold nzF nzC nzB
        rw [if_pos g1, if_neg (by omega : ¬ 16 < nzA x), if_neg (by omega : ¬ 16 < nzA x), if_neg (by omega : ¬ 4 < nzA x), if_neg (by omega : ¬ 4 < nzA x)]
        rfl
      · have g3 : 4 < nzA x := g3
        refine ⟨congrArg (fun z => some (vI z)) ?_, rfl⟩
        unfold nzF nzC nzB
        rw [if_pos g1, if_neg (by omega : ¬ 16 < nzA x), if_neg (by omega : ¬ 16 < nzA x), if_pos g3, if_pos g3]
        rfl
    · have g2 : 16 < nzA x := g2
      refine And.intro (fun g3 => ?_) (fun g3 => ⟨by decide, ?_⟩)
      · have g3 : kushr (nzA x) 4 ≤ 4 := g3
        refine ⟨congrArg (fun z => some (vI z)) ?_, rfl⟩
        unfold nzF nzC nzB
        rw [if_pos g1, if_pos g2, if_pos g2, if_neg (by omega : ¬ 4 < kushr (nzA x) 4), if_neg (by omega : ¬ 4 < kushr (nzA x) 4)]
        rfl
      · have g3 : 4 < kushr (nzA x) 4 := g3
        refine ⟨congrArg (fun z => some (vI z)) ?_, rfl⟩
        unfold nzF nzC nzB
        rw [if_pos g1, if_pos g2, if_pos g2, if_pos g3, if_pos g3]
        rfl
  · have g1 : nzA x ≤ 0 := g1
    refine ⟨congrArg (fun z => some (vI z)) ?_, rfl⟩
    unfold nzF
    rw [if_neg (by omega : ¬ 0 < nzA x)]
    rfl
end
section
/-! constructors: the graph grows, references are set; rules for new, newarray, putfield of a final field, calls of constructors -/
abbrev Bs : Type := Launch × va_G × (Nat → ClassId) × Ro
abbrev bE (B : Bs) (G : Gr) : Ev := (B.1, B.2.1, B.2.2.1, G, B.2.2.2)
def gWf (G : Gr) : Prop := ∀ (o ci k q : Nat) (rs : List (Option Nat)), G[o]? = some (.inl (ci, rs)) → rs[k]? = some (some q) → q < G.length
def mz (m : Mem) (o : Nat) : Mem := fun p => if p = o then (fun _ => 0) else m p
theorem mz_ne {m : Mem} {o p : Nat} (h : p ≠ o) : mz m o p = m p := by simp [mz, h]
theorem mz_at {m : Mem} {o : Nat} (i : Int) : mz m o o i = 0 := by simp [mz]
theorem mz_in {m : Mem} {o : Nat} (h : ∀ o i, inR (m o i)) : ∀ p i, inR (mz m o p i) := by
  intro p i
  unfold mz
  split
  · exact k_inR0
  · exact h p i
/-- all references on locals and stack are of objects that there are -/
def k_rok (n : Nat) : List AV → Bool
  | [] => true
  | .inr (.inl o) :: l => (Nat.blt o n || Nat.ble 1000 o) && k_rok n l
  | _ :: l => k_rok n l
def k_lvs : KL → List AV
  | [] => []
  | some v :: l => v :: k_lvs l
  | none :: l => k_lvs l
theorem k_rok_at {n : Nat} : ∀ {l : List AV}, k_rok n l = true → ∀ v ∈ l, ∀ o, v = .inr (.inl o) → o < n ∨ 1000 ≤ o
  | [], _, v, h, _, _ => by cases h
  | .inr (.inl a) :: l, hk, v, hv, o, e => by
    simp only [k_rok, Bool.and_eq_true, Bool.or_eq_true] at hk
    rcases List.mem_cons.mp hv with rfl | hv
    · cases e
      rcases hk.1 with h | h
      · exact Or.inl (Nat.le_of_ble_eq_true h)
      · exact Or.inr (Nat.le_of_ble_eq_true h)
    · exact k_rok_at hk.2 v hv o e
  | .inl a :: l, hk, v, hv, o, e => by
    rcases List.mem_cons.mp hv with rfl | hv
    · cases e
    · exact k_rok_at (l := l) hk v hv o e
  | .inr (.inr a) :: l, hk, v, hv, o, e => by
    rcases List.mem_cons.mp hv with rfl | hv
    · cases e
    · exact k_rok_at (l := l) hk v hv o e
theorem k_lvs_in {L : KL} {v : AV} (h : some v ∈ L) : v ∈ k_lvs L := by
  induction L with
  | nil => cases h
  | cons a L ih =>
    cases a with
    | none =>
      rcases List.mem_cons.mp h with h | h
      · cases h
      · exact ih h
    | some w =>
      rcases List.mem_cons.mp h with h | h
      · cases h; exact List.mem_cons_self
      · exact List.mem_cons_of_mem _ (ih h)
theorem k_rv_ad {n : Nat} {ad ad' : Nat → Nat} (h1 : ∀ o, o < n → ad' o = ad o) (h2 : ∀ o, 1000 ≤ o → ad' o = ad o) {l : List AV} (hk : k_rok n l = true) : ∀ v ∈ l, rv ad' v = rv ad v := by
  intro v hv
  match v, hv with
  | .inl x, _ => rfl
  | .inr (.inr x), _ => rfl
  | .inr (.inl o), hv =>
    show Value.ref (ad' o) = Value.ref (ad o)
    rcases k_rok_at hk _ hv o rfl with h | h
    · rw [h1 o h]
    · rw [h2 o h]
theorem kLs_ad {n N : Nat} {ad ad' : Nat → Nat} (h1 : ∀ o, o < n → ad' o = ad o) (h2 : ∀ o, 1000 ≤ o → ad' o = ad o) {ls : Array Slot} {L : KL} (hk : k_rok n (k_lvs L) = true) (h : kLs ad ls N L) : kLs ad' ls N L := by
  refine ⟨⟨h.1.1, h.1.2.1, fun q hq => ?_⟩, h.2.1, h.2.2⟩
  obtain ⟨v, g1, g2⟩ := k_lv_in.mp hq
  rw [k_rv_ad h1 h2 hk v (k_lvs_in (List.mem_of_getElem? g1))] at g2
  exact h.1.2.2 q (k_lv_in.mpr ⟨v, g1, g2⟩)
theorem kSt_ad {n : Nat} {ad ad' : Nat → Nat} (h1 : ∀ o, o < n → ad' o = ad o) (h2 : ∀ o, 1000 ≤ o → ad' o = ad o) {S : List AV} (hk : k_rok n S = true) : S.map (rv ad') = S.map (rv ad) := List.map_congr_left (k_rv_ad h1 h2 hk)
theorem k_ent_ad {cA : Nat → ClassId} {n : Nat} {ad ad' : Nat → Nat} {m m' : Mem} {o : Nat} {d : Ob} (ho : ad' o = ad o) (hm : m' o = m o) (h1 : ∀ o, o < n → ad' o = ad o) (hd : ∀ (ci k q : Nat) (rs : List (Option Nat)), d = .inl (ci, rs) → rs[k]? = some (some q) → q < n) : k_ent cA ad' m' o d = k_ent cA ad m o d := by
  match d, hd with
  | .inl (ci, rs), hd =>
    unfold k_ent
    simp only
    rw [ho]
    congr 3
    apply List.map_congr_left
    intro k _
    unfold k_fv fld
    rw [hm]
    split
    · cases hq : rs[k]? with
      | none => rfl
      | some x =>
        cases x with
        | none => rfl
        | some q => simp only; rw [h1 q (hd ci k q rs rfl hq)]
    · rfl
  | .inr (ty, n), hd =>
    unfold k_ent
    simp only [ho, hm]
theorem k_wl_ad {cA : Nat → ClassId} {ad ad' : Nat → Nat} {m m' : Mem} {G : Gr} (h1 : ∀ o, o < G.length → ad' o = ad o) (hm : ∀ o, o < G.length → m' o = m o) (hw : gWf G) : k_wl cA ad' m' G = k_wl cA ad m G := by
  apply List.ext_getElem?
  intro j
  unfold k_wl
  rw [List.getElem?_mapIdx, List.getElem?_mapIdx]
  cases hj : G[j]? with
  | none => rfl
  | some d =>
    have hl : j < G.length := (List.getElem?_eq_some_iff.mp hj).1
    exact congrArg some (k_ent_ad (h1 j hl) (hm j hl) h1 (fun ci k q rs e hk => hw j ci k q rs (by rw [hj, e]) hk))
theorem k_wl_app {cA : Nat → ClassId} {ad : Nat → Nat} {m : Mem} {G : Gr} {d : Ob} : k_wl cA ad m (G ++ [d]) = k_wl cA ad m G ++ [k_ent cA ad m G.length d] := by
  unfold k_wl
  rw [List.mapIdx_concat]
theorem k_wl_set {cA : Nat → ClassId} {ad : Nat → Nat} {m : Mem} {G : Gr} {o : Nat} {d : Ob} : k_wl cA ad m (G.set o d) = (k_wl cA ad m G).set o (k_ent cA ad m o d) := by
  apply List.ext_getElem?
  intro j
  unfold k_wl
  rw [List.getElem?_mapIdx]
  by_cases hj : j = o
  · subst hj
    by_cases hl : j < G.length
    · rw [List.getElem?_set_self hl, List.getElem?_set_self (by rw [List.length_mapIdx]; exact hl)]; rfl
    · rw [List.getElem?_eq_none (by rw [List.length_set]; omega), List.getElem?_eq_none (by rw [List.length_set, List.length_mapIdx]; omega)]; rfl
  · rw [List.getElem?_set_ne (Ne.symm hj), List.getElem?_set_ne (Ne.symm hj), List.getElem?_mapIdx]
theorem kRo_ad {B : Bs} {ad ad' : Nat → Nat} {A : Nat → Prop} {s : State} {H : Heap} {G G' : Gr} (h : kRo (bE B G) ad A s H) (h2 : ∀ o, 1000 ≤ o → ad' o = ad o) : kRo (bE B G') ad' A s H := by
  refine ⟨fun j q hj => ?_, fun j t hj => ?_, h.2.2⟩
  · rw [h2 _ (by omega)]; exact h.1 j q hj
  · have := h.2.1 j t hj
    rw [h2 _ (by omega)]
    exact this
/-- what holds in the body of a constructor all along: ad0 are the addresses at its entry, of n0 objects -/
def cX (B : Bs) (h : Nat) (M : Md) (p : Program) (R : Room) (s : State) (mm : MethodId) (args : Array Value) (meth : Method) (c : Code) (ad0 : Nat → Nat) (n0 : Nat) (A : Nat → Prop) : Prop :=
  p.tables.exec = Jvm.exec ∧ c.code = (MT M.1).2.1 ∧ c.maxLocals = M.2.2.1 ∧ s.vm.findClass (CN M.2.1) = some mm.cls ∧ (∀ w ∈ TT, w.before args s = true) ∧ h + 1 ≤ R.frames ∧ 40 * (h + 1) ≤ R.locals ∧ va_K B.2.1 cls (k_tys B.2.2.1) s ∧ kRo (bE B []) ad0 A s s.heap ∧ (∀ o, o < n0 → A (ad0 o)) ∧ (∀ q, s.heap.size ≤ q → A q)
section CW
variable (B : Bs) (M : Md) (p : Program) (e : Env) (R : Room) (s : State) (mm : MethodId) (args : Array Value) (below : List Frame) (meth : Method) (c : Code) (cells slots : Nat) (Qf : State → Prop) (ad0 : Nat → Nat) (n0 : Nat) (A : Nat → Prop) (G : Gr)
def cExt (ad : Nat → Nat) (sz : Nat) : Prop := (∀ o, o < n0 → ad o = ad0 o) ∧ (∀ o, 1000 ≤ o → ad o = ad0 o) ∧ (∀ o, n0 ≤ o → o < G.length → sz ≤ ad o) ∧ n0 ≤ G.length ∧ G.length ≤ 1000
def cW (pc : Nat) (L : KL) (S : List AV) (m : Mem) : Prop := ∀ ad, cExt ad0 n0 G ad s.heap.size → kLen G → gWf G → kWW (bE B G) M p e R s mm args below meth c cells slots Qf ad A pc L S m
end CW
section CR
variable {B : Bs} {h : Nat} {M : Md} {p : Program} {e : Env} {R : Room} {s : State} {mm : MethodId} {args : Array Value} {below : List Frame} {meth : Method} {c : Code} {cells slots : Nat} {Qf : State → Prop} {ad0 : Nat → Nat} {n0 : Nat} {A : Nat → Prop} {G : Gr}
theorem cX_A (hX : cX B h M p R s mm args meth c ad0 n0 A) {ad : Nat → Nat} (he : cExt ad0 n0 G ad s.heap.size) : ∀ o, o < G.length → A (ad o) := by
  obtain ⟨-, -, -, -, -, -, -, -, -, h1, h2⟩ := hX
  intro o ho
  by_cases hn : o < n0
  · rw [he.1 o hn]; exact h1 o hn
  · exact h2 _ (he.2.2.1 o (by omega) ho)
theorem cX_kX (hX : cX B h M p R s mm args meth c ad0 n0 A) {ad : Nat → Nat} (he : cExt ad0 n0 G ad s.heap.size) (hL : kLen G) (hce : cells ≤ R.cells) (hsl : slots ≤ R.slots) : kX (bE B G) h M (fun _ _ => False) p e R s mm args below meth c cells slots Qf ad A := by
  have hA := cX_A hX he
  obtain ⟨h1, h2, h3, h4, h5, h6, h7, h8, h9, -, -⟩ := hX
  exact ⟨h1, h2, h3, h4, h5, h6, h7, hce, hsl, h8, kRo_ad h9 he.2.1, hA, hL, fun _ _ _ _ _ _ h => h.elim⟩
theorem c_blk_sound (hM : k_okM M) (hX : cX B h M p R s mm args meth c ad0 n0 A) (hce : cells ≤ R.cells) (hsl : slots ≤ R.slots) {cuts : List Nat} :
    ∀ (f b : Nat) (L : KL) (S : List AV) (m : Mem), k_blk G B.2.2.2 (kCall (bE B G) h) (fun _ _ => False) M.2.2.2.2 cuts (fun b L S m => cW B M p e R s mm args below meth c cells slots Qf ad0 n0 A G (k_pc M b) L S m) f b L S m → cW B M p e R s mm args below meth c cells slots Qf ad0 n0 A G (k_pc M b) L S m := by
  intro f
  induction f with
  | zero => intro b L S m hB; exact hB.elim
  | succ f ih =>
    intro b L S m hB
    unfold k_blk at hB
    split at hB
    · exact hB
    · split at hB
      · rename_i q hq
        have hk : k_pc M b = q.1 := by unfold k_pc; rw [List.getD_eq_getElem?_getD, hq]; rfl
        rw [hk]
        intro ad he hl hw
        exact k_sound (E := bE B G) (cX_kX hX he hl hce hsl) (fun b L S m hq => ih b L S m hq ad he hl hw) q.2 q.1 L S m (List.all_eq_true.mp hM.2.2.2.2.1 q (List.mem_of_getElem? hq)) hB
      · exact hB.elim
/-- from a block on, to the cuts -/
theorem c_go (hX : cX B h M p R s mm args meth c ad0 n0 A) (hM : k_okM M) (hce : cells ≤ R.cells) (hsl : slots ≤ R.slots) (cuts : List Nat) (f b : Nat) {L : KL} {S : List AV} {m : Mem}
    (H : k_go G B.2.2.2 (kCall (bE B G) h) (fun _ _ => False) M.2.2.2.2 cuts (fun b L S m => cW B M p e R s mm args below meth c cells slots Qf ad0 n0 A G (k_pc M b) L S m) f b L S m) : cW B M p e R s mm args below meth c cells slots Qf ad0 n0 A G (k_pc M b) L S m := by
  unfold k_go at H
  split at H
  · rename_i q hq
    have hk : k_pc M b = q.1 := by unfold k_pc; rw [List.getD_eq_getElem?_getD, hq]; rfl
    rw [hk]
    intro ad he hl hw
    exact k_sound (E := bE B G) (cX_kX hX he hl hce hsl) (fun b L S m hq => c_blk_sound hM hX hce hsl f b L S m hq ad he hl hw) q.2 q.1 L S m (List.all_eq_true.mp hM.2.2.2.2.1 q (List.mem_of_getElem? hq)) H
  · exact H.elim
theorem c_obj_in : Cond.instanceMethod Lib.objectInit ∈ TT ∧ Cond.code Lib.objectInit ⟨#[0xb1]⟩ 1 none ∈ TT := ⟨k_at_in (p := 168) (by decide +kernel), k_at_in (p := 169) (by decide +kernel)⟩
/-- Object's constructor -/
theorem c_obj (hX : cX B h M p R s mm args meth c ad0 n0 A) {pc idx pos o : Nat} {L : KL} {S : List AV} {m : Mem} (hd : decode (MT M.1).2.1 pc = .ok (.invokespecial idx, 3)) (hl : k_at pos (.methodLink (CN M.2.1) idx Lib.objectInit) = true) (hs : Nat.ble (S.map k_cat).sum 8 = true) (hf : Nat.ble 1 R.frames = true) (hlo : Nat.ble 20 R.locals = true)
    (kk : cW B M p e R s mm args below meth c cells slots Qf ad0 n0 A G (pc + 3) L S m) : cW B M p e R s mm args below meth c cells slots Qf ad0 n0 A G pc L (vR o :: S) m := by
  intro ad he hl' hw H locs ls hH hS hL hV
  obtain ⟨h1, h2, h3, h4, h5, h6, h7, h8, h9, -, -⟩ := hX
  obtain ⟨-, hV2⟩ := k_kV_tail hV
  have hs2 := Nat.le_of_ble_eq_true hs
  have hl2 := Nat.le_of_ble_eq_true hlo
  refine W.objInit h1 h2 h4 (h5 _ (k_at_in hl)) (h5 _ c_obj_in.1) (h5 _ c_obj_in.2) rfl (by rw [h3]; exact hL.1.1) rfl hd (Nat.le_of_ble_eq_true hf) ?_ (kk ad he hl' hw H locs ls hH hS hL hV2)
  have : (List.map (fun v : Value => v.category) (S.map (rv ad))).sum ≤ 8 := by rw [k_sum_cat hV2]; exact hs2
  show 2 * 0 + _ + 12 ≤ _
  omega
theorem c_ext_new {ad : Nat → Nat} {sz q : Nat} {d : Ob} (he : cExt ad0 n0 G ad sz) (hq : sz ≤ q) (ho : G.length < 1000) : cExt ad0 n0 (G ++ [d]) (fun x => if x = G.length then q else ad x) sz ∧ (∀ o, o < G.length → (fun x => if x = G.length then q else ad x) o = ad o) ∧ (∀ o, 1000 ≤ o → (fun x => if x = G.length then q else ad x) o = ad o) := by
  obtain ⟨e1, e2, e3, e4, e5⟩ := he
  have f1 : ∀ o, o < G.length → (fun x => if x = G.length then q else ad x) o = ad o := fun o h => by simp only; rw [if_neg (by omega)]
  have f2 : ∀ o, 1000 ≤ o → (fun x => if x = G.length then q else ad x) o = ad o := fun o h => by simp only; rw [if_neg (by omega)]
  refine ⟨⟨fun o h => by rw [f1 o (by omega)]; exact e1 o h, fun o h => by rw [f2 o h]; exact e2 o h, fun o g1 g2 => ?_, by rw [List.length_append]; omega, by rw [List.length_append]; simp; omega⟩, f1, f2⟩
  rw [List.length_append] at g2
  simp only [List.length_cons, List.length_nil] at g2
  by_cases hg : o = G.length
  · simp only [hg, if_true]; exact hq
  · rw [f1 o (by omega)]; exact e3 o g1 (by omega)
theorem gWf_app {d : Ob} (hw : gWf G) (hd : ∀ (ci k q : Nat) (rs : List (Option Nat)), d = .inl (ci, rs) → rs[k]? = some (some q) → q ≤ G.length) : gWf (G ++ [d]) := by
  intro o ci k q rs h1 h2
  rw [List.length_append]
  show q < G.length + 1
  by_cases hl : o < G.length
  · rw [List.getElem?_append_left hl] at h1
    have := hw o ci k q rs h1 h2
    omega
  · rw [List.getElem?_append_right (by omega)] at h1
    have hz : o - G.length < 1 := (List.getElem?_eq_some_iff.mp h1).1
    rw [show o - G.length = 0 by omega] at h1
    have := hd ci k q rs (Option.some.inj h1) h2
    omega
theorem kLen_app {d : Ob} (hl : kLen G) (hd : ∀ t n, d = .inr (t, n) → n ≤ 2147483647 ∧ t ≤ 2) : kLen (G ++ [d]) := by
  intro o t n h1
  by_cases hl' : o < G.length
  · rw [List.getElem?_append_left hl'] at h1
    exact hl o t n h1
  · rw [List.getElem?_append_right (by omega)] at h1
    have hz : o - G.length < 1 := (List.getElem?_eq_some_iff.mp h1).1
    rw [show o - G.length = 0 by omega] at h1
    exact hd t n (Option.some.inj h1)
/-- an array is made -/
theorem c_newa (hX : cX B h M p R s mm args meth c ad0 n0 A) {pc ty n o cells' slots' : Nat} {atype : ArrayType} {ft : FieldType} {G' : Gr} {v : Int} {L : KL} {S : List AV} {m : Mem} (pos : Nat)
    (hd : decode (MT M.1).2.1 pc = .ok (.newarray atype, 2)) (hk : (k_tys B.2.2.1)[ty]? = some (B.2.2.1 ty, ft)) (hft : newarray.typeOf atype = ft) (hde : (ty = 0 ∧ ft = .int) ∨ (ty = 1 ∧ ft = .boolean) ∨ (ty = 2 ∧ ft = .long)) (harr : k_at pos (.arrayClass (newarray.typeOf atype)) = true)
    (ho : G.length = o) (ho2 : Nat.blt o 1000 = true) (hG' : G ++ [.inr (ty, n)] = G') (hv : v = (n : Int)) (hn : n ≤ 100000) (hr1 : k_rok o (k_lvs L) = true) (hr2 : k_rok o S = true)
    (hc1 : cells + 1 ≤ R.cells) (hs1 : slots + n ≤ R.slots) (hc2 : cells + 1 ≤ cells') (hs2 : slots + n ≤ slots')
    (kk : cW B M p e R s mm args below meth c cells' slots' Qf ad0 n0 A G' (pc + 2) L (vR o :: S) (mz m o)) : cW B M p e R s mm args below meth c cells slots Qf ad0 n0 A G pc L (vI v :: S) m := by
  intro ad he hlen hw H locs ls hH hS hL hV
  obtain ⟨h1, h2, h3, h4, h5, h6, h7, h8, h9, h10, hA⟩ := hX
  obtain ⟨hVv, hV2⟩ := k_kV_tail hV
  have hVv : inR v := hVv
  subst hv hG' ho hft
  have hN : (Int32.ofInt (n : Int)).toNatClampNeg = n := by rw [k_clamp hVv]; simp
  have hn0 : ¬ Int32.ofInt (n : Int) < 0 := by rw [← k_zero, k_lt hVv k_inR0]; omega
  have hcb : componentBytes (newarray.typeOf atype) ≤ 8 := by rcases hde with ⟨-, hf⟩ | ⟨-, hf⟩ | ⟨-, hf⟩ <;> rw [hf] <;> decide
  refine va_newaK h1 h2 (h5 _ (k_at_in harr)) rfl hd rfl hn0 hN (Nat.le_trans (Nat.mul_le_mul hn hcb) (by decide)) hc1 hs1 rfl fun H1 cA e1 z1 o1 hAr hNm => ?_
  have hcA : cA = B.2.2.1 ty := by
    have hz := (h8.2 ty _ hk).2
    have hz2 : s.vm.findClass ("[" ++ (newarray.typeOf atype).toString) = some (B.2.2.1 ty) := by
      rcases hde with ⟨-, hf⟩ | ⟨-, hf⟩ | ⟨-, hf⟩ <;> (simp only [hf] at hz ⊢; exact hz)
    rw [hNm] at hz2
    exact Option.some.inj hz2
  subst hcA
  have hsz : s.heap.size ≤ H.size := hS.1
  have hl1 : G.length < 1000 := Nat.le_of_ble_eq_true ho2
  obtain ⟨he', f1, f2⟩ := c_ext_new (d := .inr (ty, n)) he hsz hl1
  generalize hadq : (fun x => if x = G.length then H.size else ad x) = ad' at he' f1 f2
  have hadn : ad' G.length = H.size := by rw [← hadq]; simp
  have hwl : k_wl B.2.2.1 ad' (mz m G.length) (G ++ [.inr (ty, n)]) = k_wl B.2.2.1 ad m G ++ [(H.size, .inl (B.2.2.1 ty, n, if ty = 2 then .inr (.inl (fun _ => 0)) else .inl (fun _ => 0)))] := by
    rw [k_wl_app, k_wl_ad f1 (fun o ho => mz_ne (by omega)) hw]
    congr 2
    unfold k_ent
    simp only [hadn, mz_at]
    rfl
  have hP1 : va_P B.2.1 cls (k_wl B.2.2.1 ad' (mz m G.length) (G ++ [.inr (ty, n)])) H1 := by
    rw [hwl]
    refine (hH.1.kept (fun k x hx => o1 x.1 ((hH.1 k x hx).lt))).app (fun k x hx => ?_)
    have hz : k < 1 := (List.getElem?_eq_some_iff.mp hx).1
    rw [show k = 0 by omega] at hx
    cases hx
    show H1[H.size]? = some (vp_cell _ _)
    rw [e1]
    rcases hde with ⟨rfl, hf⟩ | ⟨rfl, hf⟩ | ⟨rfl, hf⟩ <;> rw [hf] <;> rfl
  have hD1 : va_D A (k_wl B.2.2.1 ad' (mz m G.length) (G ++ [.inr (ty, n)])) := by
    rw [hwl]
    exact hH.2.1.push hH.1 rfl (hA _ hsz)
  refine W.widen hc2 hs2 ?_
  have := kk ad' he' (kLen_app hlen (fun t n' e => by cases e; exact ⟨by omega, by rcases hde with ⟨rfl, -⟩ | ⟨rfl, -⟩ | ⟨rfl, -⟩ <;> decide⟩)) (gWf_app hw (fun ci k q rs e => by cases e)) H1 locs ls ⟨hP1, hD1, mz_in hH.2.2⟩ ⟨Nat.le_trans hsz (by omega), fun x g1 g2 => (o1 x (Nat.lt_of_lt_of_le g1 hsz)).trans (hS.2.1 x g1 g2), hS.2.2⟩ (kLs_ad f1 f2 hr1 hL) (k_kV_cons trivial hV2)
  rw [List.map_cons, kSt_ad f1 f2 hr2] at this
  show W p B.1 e R s mm args below meth c H1 locs cells' slots' Qf (F0 mm (pc + 2) ls (.ref H.size :: S.map (rv ad)))
  rw [← hadn]
  exact this
end CR
end
section
/-! constructors, second half: new, final fields, calls of constructors, the end -/
section CR2
variable {B : Bs} {h : Nat} {M : Md} {p : Program} {e : Env} {R : Room} {s : State} {mm : MethodId} {args : Array Value} {below : List Frame} {meth : Method} {c : Code} {cells slots : Nat} {Qf : State → Prop} {ad0 : Nat → Nat} {n0 : Nat} {A : Nat → Prop} {G : Gr}
def k_nulls (ci : Nat) : List (Option Nat) := List.replicate (k_nf ci) none
theorem k_nulls_at (ci k : Nat) : ∀ q, (k_nulls ci)[k]? ≠ some (some q) := by
  intro q h
  unfold k_nulls at h
  rw [List.getElem?_replicate] at h
  split at h <;> cases h
/-- an object is made -/
theorem c_new (hX : cX B h M p R s mm args meth c ad0 n0 A) {pc idx ci o cells' slots' : Nat} {G' : Gr} {L : KL} {S : List AV} {m : Mem} (pos pos2 pos3 : Nat)
    (hd : decode (MT M.1).2.1 pc = .ok (.new idx, 3)) (hcl : k_at pos (.classLink (CN M.2.1) idx (CN ci)) = true) (hin : k_at pos2 (.instantiable (CN ci) (k_nf ci)) = true) (hini : k_at pos3 (.initialized (CN ci)) = true) (hcc : cls[ci]? = some (CN ci, k_TX ci, k_nf ci))
    (hdef : ∀ k, k < k_nf ci → defaultValue (k_ty ci k) = (if k_tc (k_ty ci k) = 1 then .null else .int 0))
    (ho : G.length = o) (ho2 : Nat.blt o 1000 = true) (hG' : G ++ [.inl (ci, k_nulls ci)] = G') (hr1 : k_rok o (k_lvs L) = true) (hr2 : k_rok o S = true)
    (hc1 : cells + 1 ≤ R.cells) (hs1 : slots + k_nf ci ≤ R.slots) (hc2 : cells + 1 ≤ cells') (hs2 : slots + k_nf ci ≤ slots')
    (kk : cW B M p e R s mm args below meth c cells' slots' Qf ad0 n0 A G' (pc + 3) L (vR o :: S) (mz m o)) : cW B M p e R s mm args below meth c cells slots Qf ad0 n0 A G pc L S m := by
  intro ad he hlen hw H locs ls hH hS hL hV
  obtain ⟨h1, h2, h3, h4, h5, h6, h7, h8, h9, h10, hA⟩ := hX
  subst hG' ho
  have hKn := h8.1 ci _ hcc
  obtain ⟨-, -, -, hqw, hqp, -⟩ := k_cls hcc
  refine W.newcK h1 h2 h4 (h5 _ (k_at_in hcl)) (h5 _ (k_at_in hin)) (h5 _ (k_at_in hini)) rfl hd hc1 hs1 hKn.2.1 rfl fun H1 kC hkC e1 z1 o1 => ?_
  have hsz : s.heap.size ≤ H.size := hS.1
  have hl1 : G.length < 1000 := Nat.le_of_ble_eq_true ho2
  obtain ⟨he', f1, f2⟩ := c_ext_new (d := .inl (ci, k_nulls ci)) he hsz hl1
  generalize hadq : (fun x => if x = G.length then H.size else ad x) = ad' at he' f1 f2
  have hadn : ad' G.length = H.size := by rw [← hadq]; simp
  have hwl : k_wl B.2.2.1 ad' (mz m G.length) (G ++ [.inl (ci, k_nulls ci)]) = k_wl B.2.2.1 ad m G ++ [(H.size, .inr (ci, (List.range (k_nf ci)).map (fun k => if k_tc (k_ty ci k) = 1 then .null else .int 0)))] := by
    rw [k_wl_app, k_wl_ad f1 (fun o ho => mz_ne (by omega)) hw]
    congr 2
    unfold k_ent
    simp only [hadn]
    congr 3
    apply List.map_congr_left
    intro k _
    unfold k_fv fld
    rw [mz_at]
    split
    · split
      · rename_i q hq
        exact absurd hq (k_nulls_at ci k q)
      · rfl
    · rfl
  have hP1 : va_P B.2.1 cls (k_wl B.2.2.1 ad' (mz m G.length) (G ++ [.inl (ci, k_nulls ci)])) H1 := by
    rw [hwl]
    refine (hH.1.kept (fun k x hx => o1 x.1 ((hH.1 k x hx).lt))).app (fun k x hx => ?_)
    have hz : k < 1 := (List.getElem?_eq_some_iff.mp hx).1
    rw [show k = 0 by omega] at hx
    cases hx
    refine ⟨_, hcc, (u_born (k_ty ci) h5 hqw hKn hkC e1 hqp).to (fun j hj => ?_)⟩
    rw [hdef j hj]
    unfold vp_V
    rw [List.getD_eq_getElem?_getD, List.getElem?_map, List.getElem?_range hj]
    rfl
  have hD1 : va_D A (k_wl B.2.2.1 ad' (mz m G.length) (G ++ [.inl (ci, k_nulls ci)])) := by
    rw [hwl]
    exact hH.2.1.push hH.1 rfl (hA _ hsz)
  refine W.widen hc2 hs2 ?_
  have := kk ad' he' (kLen_app hlen (fun t n' e => by cases e)) (gWf_app hw (fun ci' k q rs e hk => by cases e; exact absurd hk (k_nulls_at ci k q))) H1 locs ls ⟨hP1, hD1, mz_in hH.2.2⟩ ⟨Nat.le_trans hsz (by omega), fun x g1 g2 => (o1 x (Nat.lt_of_lt_of_le g1 hsz)).trans (hS.2.1 x g1 g2), hS.2.2⟩ (kLs_ad f1 f2 hr1 hL) (k_kV_cons trivial hV)
  rw [List.map_cons, kSt_ad f1 f2 hr2] at this
  show W p B.1 e R s mm args below meth c H1 locs cells' slots' Qf (F0 mm (pc + 3) ls (.ref H.size :: S.map (rv ad)))
  rw [← hadn]
  exact this
theorem gWf_set {o : Nat} {ci : Nat} {rs : List (Option Nat)} (hw : gWf G) (hd : ∀ (k q : Nat), rs[k]? = some (some q) → q < G.length) : gWf (G.set o (.inl (ci, rs))) := by
  intro o' ci' k q rs' h1 h2
  rw [List.length_set]
  by_cases hj : o' = o
  · subst hj
    by_cases hl : o' < G.length
    · rw [List.getElem?_set_self hl] at h1
      cases h1
      exact hd k q h2
    · rw [List.getElem?_eq_none (by rw [List.length_set]; omega)] at h1
      cases h1
  · rw [List.getElem?_set_ne (Ne.symm hj)] at h1
    exact hw o' ci' k q rs' h1 h2
theorem kLen_set {o ci : Nat} {rs : List (Option Nat)} (hl : kLen G) : kLen (G.set o (.inl (ci, rs))) := by
  intro o' t n h1
  by_cases hj : o' = o
  · subst hj
    by_cases hl : o' < G.length
    · rw [List.getElem?_set_self hl] at h1
      cases h1
    · rw [List.getElem?_eq_none (by rw [List.length_set]; omega)] at h1
      cases h1
  · rw [List.getElem?_set_ne (Ne.symm hj)] at h1
    exact hl o' t n h1
/-- a final field of a reference is set -/
theorem c_putR (hX : cX B h M p R s mm args meth c ad0 n0 A) (hin : meth.name = "<init>") {pc idx ci k o q : Nat} {rs rs' : List (Option Nat)} {G' : Gr} {L : KL} {S : List AV} {m : Mem}
    (hd : decode (MT M.1).2.1 pc = .ok (.putfield idx, 3)) (hl : k_FR.any (fun q => Nat.beq q.1 M.2.1 && (Nat.beq q.2.1 idx && (Nat.beq q.2.2.1 ci && (Nat.beq q.2.2.2.1 k && Nat.beq q.2.2.2.2.1 1)))) = true)
    (hG : G[o]? = some (.inl (ci, rs))) (hfin : (k_TX ci k).2.2.2 = true) (hdecl : (k_TX ci k).1 = CN M.2.1) (hfit : ∀ a, narrow (k_ty ci k) (.ref a) = .ref a ∧ fits (k_ty ci k) (.ref a) = true)
    (hrs : rs.set k (some q) = rs') (hkl : Nat.blt k rs.length = true) (hq : Nat.blt q G.length = true) (hG' : G.set o (.inl (ci, rs')) = G')
    (kk : cW B M p e R s mm args below meth c cells slots Qf ad0 n0 A G' (pc + 3) L S m) : cW B M p e R s mm args below meth c cells slots Qf ad0 n0 A G pc L (vR q :: vR o :: S) m := by
  intro ad he hlen hw H locs ls hH hS hL hV
  have hl := k_fr hl
  obtain ⟨hx, hb, hml, hown, hts, h6, h7, hK, hRo, h10, hA⟩ := hX
  obtain ⟨h12, hkn, htc, hlk⟩ := k_FR_at hl
  obtain ⟨cq, hcq⟩ := k_cls_at h12
  obtain ⟨-, hqn, hqt, hqw, hqp, hqd⟩ := k_cls hcq
  obtain ⟨C0, T0, N0⟩ := cq
  simp only at hqn hqt hqw hqp hqd
  subst hqn hqt hrs hG'
  have hee := k_wl_at (cA := B.2.2.1) (ad := ad) (m := m) hG
  obtain ⟨-, hV2⟩ := k_kV_tail hV
  obtain ⟨-, hV3⟩ := k_kV_tail hV2
  have hql : q < G.length := Nat.le_of_ble_eq_true hq
  have hkl := Nat.le_of_ble_eq_true hkl
  refine va_putF hx hb hts hqw (k_ty ci) hqp hqd hown hK hH.1 hH.2.1 hS o hee hcq k hkn (hts _ hlk) (fun x h => h) hfin hin hdecl (hqp k hkn) (hfit (ad q)).1 (hfit (ad q)).2 (by simpa using hkn) hd (fun H1 locs1 hP hD hS1 => ?_)
  have hw2 : k_wl B.2.2.1 ad m (G.set o (.inl (ci, rs.set k (some q)))) = (k_wl B.2.2.1 ad m G).set o (ad o, .inr (ci, ((List.range (k_nf ci)).map (k_fv ad m o ci rs)).set k (.ref (ad q)))) := by
    rw [k_wl_set]
    congr 1
    unfold k_ent
    simp only
    congr 3
    apply List.ext_getElem?
    intro j
    by_cases hj : j = k
    · subst hj
      rw [List.getElem?_set_self (by simpa using hkn), List.getElem?_map, List.getElem?_range hkn]
      simp [k_fv, htc, List.getElem?_set_self hkl]
    · rw [List.getElem?_set_ne (Ne.symm hj), List.getElem?_map, List.getElem?_map]
      cases hz : (List.range (k_nf ci))[j]? with
      | none => rfl
      | some z =>
        simp only [Option.map_some]
        obtain ⟨g1, g2⟩ := List.getElem?_eq_some_iff.mp hz
        rw [List.getElem_range] at g2
        subst g2
        simp only [k_fv]
        rw [List.getElem?_set_ne (Ne.symm hj)]
  have hwf : gWf (G.set o (.inl (ci, rs.set k (some q)))) := gWf_set hw (fun k' q' hk' => by
    by_cases hj : k' = k
    · subst hj
      rw [List.getElem?_set_self hkl] at hk'
      cases hk'
      exact hql
    · rw [List.getElem?_set_ne (Ne.symm hj)] at hk'
      exact hw o ci k' q' rs hG hk')
  refine kk ad ⟨he.1, he.2.1, fun o' g1 g2 => he.2.2.1 o' g1 (by rwa [List.length_set] at g2), by rw [List.length_set]; exact he.2.2.2.1, by rw [List.length_set]; exact he.2.2.2.2⟩ (kLen_set hlen) hwf H1 locs1 ls ⟨?_, ?_, hH.2.2⟩ hS1 hL hV3
  · show va_P B.2.1 cls (k_wl B.2.2.1 ad m (G.set o (.inl (ci, rs.set k (some q))))) H1
    rw [hw2]; exact hP
  · show va_D A (k_wl B.2.2.1 ad m (G.set o (.inl (ci, rs.set k (some q)))))
    rw [hw2]; exact hD
/-- a final field of a number is set -/
theorem c_putI (hX : cX B h M p R s mm args meth c ad0 n0 A) (hin : meth.name = "<init>") {pc idx ci k o : Nat} {rs : List (Option Nat)} {v : Int} {L : KL} {S : List AV} {m : Mem}
    (hd : decode (MT M.1).2.1 pc = .ok (.putfield idx, 3)) (hl : k_FR.any (fun q => Nat.beq q.1 M.2.1 && (Nat.beq q.2.1 idx && (Nat.beq q.2.2.1 ci && (Nat.beq q.2.2.2.1 k && Nat.beq q.2.2.2.2.1 0)))) = true)
    (hG : G[o]? = some (.inl (ci, rs))) (hfin : (k_TX ci k).2.2.2 = true) (hdecl : (k_TX ci k).1 = CN M.2.1)
    (kk : cW B M p e R s mm args below meth c cells slots Qf ad0 n0 A G (pc + 3) L S (fset m o k v)) : cW B M p e R s mm args below meth c cells slots Qf ad0 n0 A G pc L (vI v :: vR o :: S) m := by
  intro ad he hlen hw H locs ls hH hS hL hV
  have hl := k_fr hl
  obtain ⟨hx, hb, hml, hown, hts, h6, h7, hK, hRo, h10, hA⟩ := hX
  obtain ⟨h12, hkn, htc, hlk⟩ := k_FR_at hl
  obtain ⟨cq, hcq⟩ := k_cls_at h12
  obtain ⟨-, hqn, hqt, hqw, hqp, hqd⟩ := k_cls hcq
  obtain ⟨C0, T0, N0⟩ := cq
  simp only at hqn hqt hqw hqp hqd
  subst hqn hqt
  have hee := k_wl_at (cA := B.2.2.1) (ad := ad) (m := m) hG
  obtain ⟨hVv, hV2⟩ := k_kV_tail hV
  obtain ⟨-, hV3⟩ := k_kV_tail hV2
  have hty := k_tc_int htc
  refine va_putF hx hb hts hqw (k_ty ci) hqp hqd hown hK hH.1 hH.2.1 hS o hee hcq k hkn (hts _ hlk) (fun x h => h) hfin hin hdecl (hqp k hkn) (v := .int (Int32.ofInt v)) (by rw [hty]; rfl) (by rw [hty]; rfl) (by simpa using hkn) hd (fun H1 locs1 hP hD hS1 => ?_)
  have hw2 : k_wl B.2.2.1 ad (fset m o k v) G = (k_wl B.2.2.1 ad m G).set o (ad o, .inr (ci, ((List.range (k_nf ci)).map (k_fv ad m o ci rs)).set k (.int (Int32.ofInt v)))) := by
    rw [k_wl_upd (m := m) (m' := fset m o k v) hG (fun p hp => k_mset_ne hp), k_ent_put (by rw [htc]; decide)]
  refine kk ad he hlen hw H1 locs1 ls ⟨?_, ?_, k_mset_in hH.2.2 hVv⟩ hS1 hL hV3
  · show va_P B.2.1 cls (k_wl B.2.2.1 ad (fset m o k v) G) H1
    rw [hw2]; exact hP
  · show va_D A (k_wl B.2.2.1 ad (fset m o k v) G)
    rw [hw2]; exact hD
end CR2
/-- a constructor, called with these values where the graph is G, ends with the graph G' and a memory of which Q holds -/
def kNew (B : Bs) (h n : Nat) (as : List AV) (G G' : Gr) (m : Mem) (mc ms : Nat) (Q : Mem → Prop) : Prop := ∀ (ad0 : Nat → Nat) (sz : Nat), (∀ v ∈ as, kV v) →
  Met B.1 (MT n).1 (Cond.code (MT n).1 (MT n).2.1 (MT n).2.2.1 (MT n).2.2.2 :: TT) { frames := h, cells := mc, slots := ms, locals := 40 * h }
    (va_Pc (as.map (rv ad0)) (fun U => U.heap.size = sz ∧ kHp (bE B G) ad0 (kAd (bE B G) ad0) m U.heap ∧ va_K B.2.1 cls (k_tys B.2.2.1) U ∧ kRo (bE B G) ad0 (kAd (bE B G) ad0) U U.heap ∧ kLen G ∧ gWf G ∧ G.length ≤ 1000))
    (fun _ st oc t => (∃ (ad : Nat → Nat) (m' : Mem), oc = .returned none ∧ Q m' ∧ cExt ad0 G.length G' ad st.heap.size ∧ kHp (bE B G') ad (kAd (bE B G') ad) m' t.heap ∧ kLen G' ∧ gWf G') ∧ va_F (kAd (bE B G) ad0) st t) mc ms (fun q => kAd (bE B G) ad0 q ∨ sz ≤ q)
theorem kNP_blind {B : Bs} {G : Gr} {as : List AV} {m : Mem} {ad : Nat → Nat} {sz : Nat} : FrameBlind (va_Pc (as.map (rv ad)) (fun U => U.heap.size = sz ∧ kHp (bE B G) ad (kAd (bE B G) ad) m U.heap ∧ va_K B.2.1 cls (k_tys B.2.2.1) U ∧ kRo (bE B G) ad (kAd (bE B G) ad) U U.heap ∧ kLen G ∧ gWf G ∧ G.length ≤ 1000)) := by
  intro a U g mk h
  obtain ⟨h1, h0, h2, h3, h4, h5⟩ := h
  have hvm : (U.calling g mk a).vm = U.vm := rfl
  have hal : U.vm.Alike (U.calling g mk a).vm := Vm.Alike.refl U.vm
  refine ⟨h1, h0, h2, va_K.moved hal h3, ⟨fun j q hj => (h4.1 j q hj).moved hal, fun j t hj => ?_, fun w hw => ?_⟩, h5⟩
  · obtain ⟨a1, a2⟩ := h4.2.1 j t hj
    refine ⟨?_, a2⟩
    rcases a1 with a1 | a1
    · exact Or.inl ⟨a1.1, a1.2.moved hal⟩
    · exact Or.inr ⟨a1.1, a1.2.moved hal⟩
  · have h6 := h4.2.2 w hw
    simp only [k_NW, List.mem_cons, List.not_mem_nil, or_false] at hw
    rcases hw with rfl | rfl | rfl <;> exact va_Nw.same rfl rfl h6
section CR3
variable {B : Bs} {h : Nat} {M : Md} {p : Program} {e : Env} {R : Room} {s : State} {mm : MethodId} {args : Array Value} {below : List Frame} {meth : Method} {c : Code} {cells slots : Nat} {Qf : State → Prop} {ad0 : Nat → Nat} {n0 : Nat} {A : Nat → Prop} {G : Gr}
/-- a constructor is called -/
theorem c_init (hX : cX B h M p R s mm args meth c ad0 n0 A) {pc j n na o mc ms h2 cells' slots' : Nat} {G' : Gr} {xs S' : List AV} {L : KL} {m : Mem} {Q : Mem → Prop} (st : List AV) (hst : st = xs.reverse ++ vR o :: S')
    (hd : decode (MT M.1).2.1 pc = .ok (.invokespecial j, 3)) (hnm : (MT n).1.name = "<init>") (hret : (MT n).2.2.2 = none)
    (hl : k_LR.any (fun q => Nat.beq q.1 M.2.1 && (Nat.beq q.2.1 j && (Nat.beq q.2.2.1 n && Nat.beq q.2.2.2.1 na))) = true) (hr : k_MR.any (fun r => Nat.beq r.1 n && Nat.beq r.2.2.2.1 1) = true)
    (hlen : Nat.beq xs.length na = true) (hsum : Nat.ble (S'.map k_cat).sum 8 = true) (hr1 : k_rok G.length (k_lvs L) = true) (hr2 : k_rok G.length S' = true) (hh : h2 ≤ h) (hc1 : cells + mc ≤ R.cells) (hs1 : slots + ms ≤ R.slots) (hc2 : cells + mc ≤ cells') (hs2 : slots + ms ≤ slots')
    (hC : kNew B h2 n (vR o :: xs) G G' m mc ms Q)
    (kk : ∀ m', Q m' → cW B M p e R s mm args below meth c cells' slots' Qf ad0 n0 A G' (pc + 3) L S' m') : cW B M p e R s mm args below meth c cells slots Qf ad0 n0 A G pc L st m := by
  intro ad he hlen2 hw H locs ls hH hS hL hV
  have hAo := cX_A hX he
  obtain ⟨hx, hb, hml, hown, hts, hfr, hlo, hK, hRo, h10, hA⟩ := hX
  subst hst
  obtain ⟨⟨qo, qi, qn, qa, qp⟩, hq, hz⟩ := k_any hl
  simp only [Bool.and_eq_true] at hz
  have z1 := Nat.eq_of_beq_eq_true hz.1
  have z2 := Nat.eq_of_beq_eq_true hz.2.1
  have z3 := Nat.eq_of_beq_eq_true hz.2.2.1
  have z4 := Nat.eq_of_beq_eq_true hz.2.2.2
  subst z1 z2 z3 z4
  obtain ⟨r, hr, hr0⟩ := k_any hr
  simp only [Bool.and_eq_true] at hr0
  obtain ⟨w1, w2, w3, w4, -, w5⟩ := k_MR_at hr (Nat.eq_of_beq_eq_true hr0.1)
  obtain ⟨w6, -⟩ := w5 (Nat.eq_of_beq_eq_true hr0.2)
  have hlk := k_LR_ok _ hq
  simp only [k_lchk, Bool.and_eq_true, decide_eq_true_eq] at hlk
  obtain ⟨hl1, hl2, -⟩ := hlk
  have hV' : ∀ v ∈ vR o :: xs, kV v := by
    intro v hv
    rcases List.mem_cons.mp hv with rfl | hv
    · exact trivial
    · exact hV v (List.mem_append_left _ (List.mem_reverse.mpr hv))
  have hVS : ∀ v ∈ S', kV v := fun v hv => hV v (List.mem_append_right _ (List.mem_cons_of_mem _ hv))
  have hAd : ∀ q, kAd (bE B G) ad q → A q := by rintro q ⟨o, h1, rfl⟩; exact hAo o h1
  have hcw : CallB R s args (CN M.2.1) qi (MT qn).1 (MT qn).2.1 (MT qn).2.2.1 (MT qn).2.2.2 (Cond.code (MT qn).1 (MT qn).2.1 (MT qn).2.2.1 (MT qn).2.2.2 :: TT) { frames := h2, cells := mc, slots := ms, locals := 40 * h2 } mc ms qa ∧ (MT qn).1.name = "<init>" ∧ (Cond.instanceMethod (MT qn).1).before args s = true :=
    ⟨callB_of qa hts (k_goodTT w1) rfl rfl rfl (hts _ w2) (hts _ (k_at_in hl1)) ⟨w4.1, w4.2, hl2⟩ ⟨by show h2 + 1 ≤ R.frames; omega, by show 8 + ((MT qn).2.2.1 + 11) + 40 * h2 ≤ R.locals; omega⟩, hnm, hts _ w6⟩
  rw [hret] at hcw
  have hC' := hC ad H.size hV'
  rw [hret] at hC'
  have hrun := va_runI (b := ad o) (As := xs.map (rv ad)) (rest := S'.map (rv ad)) (g := F0 mm pc ls ((xs.reverse ++ vR o :: S').map (rv ad))) (H := H) (locs := locs) (cells := cells) (slots := slots) (p := p) (l := B.1) (e := e) (below := below) (meth := meth) ⟨hx, hb, hml, hown, hts⟩ hC' hcw
    ⟨kNP_blind, fun U hU hW => ⟨rfl, by rw [hU], by rw [hU]; exact kHp_self (E := bE B G) hH, va_K.moved hW.alike hK, kRo_move (E := bE B G) (kRo_ad hRo he.2.1) hS hU hW hAd, hlen2, hw, he.2.2.2.2⟩⟩
    rfl (by simpa using Nat.eq_of_beq_eq_true hlen) hL.1.1 (by simp [rv]) (lv_room (by rw [k_sum_cat hVS]; exact Nat.le_of_ble_eq_true hsum)) hd ⟨hc1, hs1⟩
  intro T hT X
  obtain ⟨v, st₀, t, T', Lc, h0, X', hLc, e1, e2, ⟨⟨ad2, m', hv, hq2, hex, hp, hl2', hw2'⟩, hz, hk⟩, stp⟩ := hrun T hT X
  have hv' : v = none := by injection hv
  subst hv'
  rw [h0] at hz hk hex
  have hsz : s.heap.size ≤ H.size := hS.1
  have hex2 : cExt ad0 n0 G' ad2 s.heap.size := by
    obtain ⟨x1, x2, x3, x4, x5⟩ := hex
    obtain ⟨y1, y2, y3, y4, y5⟩ := he
    refine ⟨fun o ho => by rw [x1 o (by omega)]; exact y1 o ho, fun o ho => by rw [x2 o ho]; exact y2 o ho, fun o g1 g2 => ?_, by omega, x5⟩
    by_cases hg : o < G.length
    · rw [x1 o hg]; exact y3 o g1 hg
    · exact Nat.le_trans hsz (x3 o (by omega) g2)
  have hA2 : ∀ q, kAd (bE B G') ad2 q → A q := by
    rintro q ⟨o, h1, rfl⟩
    by_cases hg : o < n0
    · rw [hex2.1 o hg]; exact h10 o hg
    · exact hA _ (hex2.2.2.1 o (by omega) h1)
  have hloc : ∀ q ∈ locs ++ Lc, A q.base := by
    intro q hq
    rcases List.mem_append.mp hq with h | h
    · exact hS.2.2 q h
    · rcases hLc q h with h | h
      · exact hAd _ h
      · exact hA _ (Nat.le_trans hsz h)
  have hX3 := stand_widen X' hc2 hs2
  obtain ⟨x1, x2, x3, x4, x5⟩ := hex
  have hW := kk m' hq2 ad2 hex2 hl2' hw2' T'.heap (locs ++ Lc) ls (kHp_up (E := bE B G') (by rw [e1]; exact hp) hA2)
    ⟨Nat.le_trans hsz (by rw [e1]; exact hz), fun q g1 g2 => by rw [e1, hk q (Nat.lt_of_lt_of_le g1 hsz) (fun z => g2 (hAd q z))]; exact hS.2.1 q g1 g2, hloc⟩ (kLs_ad x1 x2 hr1 hL) hVS T' rfl
  rw [kSt_ad x1 x2 hr2] at hW
  obtain ⟨t2, a1, b1⟩ := hW hX3
  exact ⟨t2, stp t2 a1, b1⟩
/-- a constructor's contract out of its body -/
theorem c_start {n mc ms : Nat} {as : List AV} {m : Mem} {G' : Gr} {Q : Mem → Prop} (hM : k_okM M) (hn : M.1 = n) (hret : M.2.2.2.1 = none) (hnm : (MT M.1).1.name = "<init>") (hlen : as.length ≤ M.2.2.1)
    (H : ∀ (p : Program) (e : Env) (s : State) (mm : MethodId) (args : Array Value) (below : List Frame) (meth : Method) (c : Code) (Qf : State → Prop) (ad0 : Nat → Nat) (A : Nat → Prop),
      cX B h M p { frames := h + 1, cells := mc, slots := ms, locals := 40 * (h + 1) } s mm args meth c ad0 G.length A → meth.name = "<init>" →
      (∀ (pc : Nat) (L : KL) (m' : Mem), decode (MT M.1).2.1 pc = .ok (.return_, 1) → Q m' → cW B M p e { frames := h + 1, cells := mc, slots := ms, locals := 40 * (h + 1) } s mm args below meth c mc ms Qf ad0 G.length A G' pc L [] m') →
      cW B M p e { frames := h + 1, cells := mc, slots := ms, locals := 40 * (h + 1) } s mm args below meth c 0 0 Qf ad0 G.length A G (k_pc M 0) (as.map some ++ List.replicate (M.2.2.1 - as.length) none) [] m) : kNew B (h + 1) n as G G' m mc ms Q := by
  intro ad0 sz hV
  subst hn
  obtain ⟨m1, m2, m3, m4, m5, m6⟩ := id hM
  refine Met.ofW (cc := (MT M.1).2.1) (maxL := (MT M.1).2.2.1) (ret := (MT M.1).2.2.2) m4 rfl ?_
  intro p e s mm args below meth c s₁ B0 hml hv
  obtain ⟨rfl, rfl, hH, hK, hRo, hLn, hWf, h1000⟩ := hv
  have hts := atoms_spec (ws := Cond.code (MT M.1).1 (MT M.1).2.1 (MT M.1).2.2.1 (MT M.1).2.2.2 :: TT) B0.pre
  have hown : s.vm.findClass (MT M.1).1.cls = some mm.cls := findClass_of_methodNamed B0.named
  have hlocks := B0.notSynchronized
  have hin : meth.name = "<init>" := by rw [(name_of_methodNamed B0.named B0.method).1]; exact hnm
  have hr := B0.returns
  rw [m2, hret] at hr
  have hA : ∀ q, (fun q : Nat => kAd (bE B G) ad0 q ∨ s.heap.size ≤ q) q → (fun q : Nat => kAd (bE B G) ad0 q ∨ s.heap.size ≤ q) q := fun q h => h
  have hin2 : ∀ (t : Nat), t < s.heap.size → ¬ kAd (bE B G) ad0 t → ¬ (fun q : Nat => kAd (bE B G) ad0 q ∨ s.heap.size ≤ q) t := fun t h1 h2 h3 => by
    rcases h3 with h3 | h3
    · exact h2 h3
    · omega
  have hRo' : kRo (bE B []) ad0 (fun q => kAd (bE B G) ad0 q ∨ s.heap.size ≤ q) s s.heap := by
    refine ⟨fun j q hj => ?_, fun j t hj => ?_, hRo.2.2⟩
    · obtain ⟨cf, kf, fi, f, a, cell, z1, z2, z3, z4, z5, z6, z7, z8⟩ := hRo.1 j q hj
      exact ⟨cf, kf, fi, f, a, cell, z1, z2, z3, z4, z5, z6, z7, hin2 a (Array.getElem?_eq_some_iff.mp z5).1 z8⟩
    · obtain ⟨g1, g2⟩ := hRo.2.1 j t hj
      refine ⟨?_, g2⟩
      rcases g1 with ⟨g0, cell, z1, z2, z3, z4, z5, z6, z7⟩ | ⟨g0, cell, z1, z2, z3, z4, z5, z6, z7⟩
      · exact Or.inl ⟨g0, cell, z1, z2, z3, z4, z5, z6, hin2 _ (Array.getElem?_eq_some_iff.mp z1).1 z7⟩
      · exact Or.inr ⟨g0, cell, z1, z2, z3, z4, z5, z6, hin2 _ (Array.getElem?_eq_some_iff.mp z1).1 z7⟩
  have hX : cX B h M p { frames := h + 1, cells := mc, slots := ms, locals := 40 * (h + 1) } s mm (as.map (rv ad0)).toArray meth c ad0 G.length (fun q => kAd (bE B G) ad0 q ∨ s.heap.size ≤ q) :=
    ⟨B0.exec, B0.bytes, by rw [hml, m1], by rw [← m3]; exact hown, fun w hw => hts w (List.mem_cons_of_mem _ hw), Nat.le_refl _, Nat.le_refl _, hK, hRo', fun o ho => Or.inl ⟨o, ho, rfl⟩, fun q h => Or.inr h⟩
  have hW := H p e s mm (as.map (rv ad0)).toArray below meth c (MQ below (fun _ st oc t => (∃ (ad : Nat → Nat) (m' : Mem), oc = .returned none ∧ Q m' ∧ cExt ad0 G.length G' ad st.heap.size ∧ kHp (bE B G') ad (kAd (bE B G') ad) m' t.heap ∧ kLen G' ∧ gWf G') ∧ va_F (kAd (bE B G) ad0) st t) (as.map (rv ad0)).toArray s mc ms (fun q => kAd (bE B G) ad0 q ∨ s.heap.size ≤ q)) ad0 _ hX hin (by
    intro pc L m' hdec hQ ad he hlen' hwf' H1 locs ls hH1 hS1 hL1 _
    refine W.vret B0.exec B0.bytes hr (fun t ht _ => ⟨⟨ad, m', rfl, hQ, he, by rw [ht]; exact kHp_self (E := bE B G') hH1, hlen', hwf'⟩, by rw [ht]; exact hS1.1, fun q g1 g2 => by rw [ht]; exact hS1.2.1 q g1 (hin2 q g1 g2)⟩) hS1.2.2 hdec)
  have hl := lv_entry (as.map (rv ad0)) (n := (MT M.1).2.2.1) (by rw [k_sl_len hV, m1]; exact hlen)
  rw [lg_entry_eq]
  generalize (lg_sl (as.map (rv ad0)) ++ List.replicate ((MT M.1).2.2.1 - (lg_sl (as.map (rv ad0))).length) Slot.unset).toArray = ls at hl ⊢
  have hpc : k_pc M 0 = 0 := by
    unfold k_pc
    rw [List.getD_eq_getElem?_getD] at m6 ⊢
    cases hq : M.2.2.2.2[0]? with
    | none => rw [hq] at m6; cases m6
    | some q => rw [hq] at m6; exact m6
  rw [hpc] at hW
  refine hW ad0 ⟨fun _ _ => rfl, fun _ _ => rfl, fun o g1 g2 => absurd g2 (by omega), Nat.le_refl _, h1000⟩ hLn hWf s.heap [] ls ⟨hH.1, hH.2.1.weaken (fun _ q _ h => Or.inl h), hH.2.2⟩ va_S.rf ⟨⟨by rw [hl.1, m1], hl.2.1, fun q hq => ?_⟩, by simp; omega, fun v hv => ?_⟩ (fun v hv => by cases hv)
  · obtain ⟨v, h1, h2⟩ := k_lv_in.mp hq
    by_cases hlt : q.1 < as.length
    · rw [List.getElem?_append_left (by simpa using hlt), List.getElem?_map] at h1
      cases ha : as[q.1]? with
      | none => rw [ha] at h1; cases h1
      | some w =>
        rw [ha] at h1
        have : w = v := by simpa using h1
        subst this
        have := hl.2.2 (0 + q.1, rv ad0 w) (k_args_in hV 0 q.1 w ha)
        rw [h2]
        simpa using this
    · rw [List.getElem?_append_right (by simpa using hlt)] at h1
      rw [List.getElem?_replicate] at h1
      split at h1 <;> cases h1
  · rcases List.mem_append.mp hv with h1 | h1
    · obtain ⟨w, h2, h3⟩ := List.mem_map.mp h1
      rw [← Option.some.inj h3]
      exact hV w h2
    · have := (List.mem_replicate.mp h1).2
      cases this
end CR3
end
section
/-! constructors: segments that run straight on, stages of the graph -/
section CR4
variable {B : Bs} {h : Nat} {M : Md} {p : Program} {e : Env} {R : Room} {s : State} {mm : MethodId} {args : Array Value} {below : List Frame} {meth : Method} {c : Code} {cells slots : Nat} {Qf : State → Prop} {ad0 : Nat → Nat} {n0 : Nat} {A : Nat → Prop} {G : Gr}
theorem k_exec_mono {RO : Ro} {J J' : Nat → KL → List AV → Mem → Prop} {C : Nat → List AV → Mem → (Option AV → Mem → Prop) → Prop} {T : Option AV → Mem → Prop} (hJ : J = J') (is : List AI) (L : KL) (S : List AV) (m : Mem) (H : k_exec G RO J C T is L S m) : k_exec G RO J' C T is L S m := by rw [← hJ]; exact H
/-- a segment that runs straight on to the block b1 with these locals, stack and memory -/
theorem c_seg (hX : cX B h M p R s mm args meth c ad0 n0 A) (hM : k_okM M) (hce : cells ≤ R.cells) (hsl : slots ≤ R.slots) (b : Nat) {b1 : Nat} {L L1 : KL} {S S1 : List AV} {m m1 : Mem}
    (H : ∃ q, M.2.2.2.2[b]? = some q ∧ k_exec G B.2.2.2 (fun b L S m => b = b1 ∧ L = L1 ∧ S = S1 ∧ m = m1) (kCall (bE B G) h) (fun _ _ => False) q.2 L S m)
    (kk : cW B M p e R s mm args below meth c cells slots Qf ad0 n0 A G (k_pc M b1) L1 S1 m1) : cW B M p e R s mm args below meth c cells slots Qf ad0 n0 A G (k_pc M b) L S m := by
  obtain ⟨q, hq, hE⟩ := H
  have hk : k_pc M b = q.1 := by unfold k_pc; rw [List.getD_eq_getElem?_getD, hq]; rfl
  rw [hk]
  intro ad he hl hw
  exact k_sound (E := bE B G) (cX_kX hX he hl hce hsl) (fun b L S m hz => by obtain ⟨rfl, rfl, rfl, rfl⟩ := hz; exact kk ad he hl hw) q.2 q.1 L S m (List.all_eq_true.mp hM.2.2.2.2.1 q (List.mem_of_getElem? hq)) hE
end CR4
/-- the graph of the class's objects while they are made: a of them, the root's references so far, those of the object o so far -/
def gS (n ly a : Nat) (r0 : List (Option Nat)) (o ci : Nat) (rs : List (Option Nat)) : Gr := (((G0 n ly).take a).set 0 (.inl (11, r0))).set o (.inl (ci, rs))
def mzs : Mem → List Nat → Mem
  | m, [] => m
  | m, o :: l => mzs (mz m o) l
theorem mzs_ne {l : List Nat} {p : Nat} : ∀ {m : Mem}, p ∉ l → mzs m l p = m p := by
  induction l with
  | nil => intro m _; rfl
  | cons o l ih =>
    intro m h
    have h1 : p ≠ o := fun e => h (by rw [e]; exact List.mem_cons_self)
    have h2 : p ∉ l := fun e => h (List.mem_cons_of_mem _ e)
    show mzs (mz m o) l p = m p
    rw [ih h2, mz_ne h1]
theorem mzs_at {l : List Nat} {p : Nat} (i : Int) : ∀ {m : Mem}, p ∈ l → mzs m l p i = 0 := by
  induction l with
  | nil => intro m h; cases h
  | cons o l ih =>
    intro m h
    show mzs (mz m o) l p i = 0
    by_cases hp : p ∈ l
    · exact ih hp
    · rcases List.mem_cons.mp h with rfl | h
      · rw [mzs_ne hp, mz_at]
      · exact absurd h hp
end
section
/-! the constructors' code as data, cut where something is made or set for good (written by wip/whole/genctor.py) -/
def P_X2_init : CB := [(0, [(.aload_n 0, 1, []), (.nop, 0, [1])]),
  (1, []),
  (4, [(.aload_n 0, 1, []), (.iload_n 1, 1, []), (.nop, 0, [3])]),
  (6, []),
  (9, [(.aload_n 0, 1, []), (.iload_n 2, 1, []), (.nop, 0, [5])]),
  (11, []),
  (14, [(.aload_n 0, 1, []), (.iload_n 3, 1, []), (.nop, 0, [7])]),
  (16, []),
  (19, [(.aload_n 0, 1, []), (.iload_n 1, 1, []), (.iload_n 2, 1, []), (.imul, 1, []), (.nop, 0, [9])]),
  (23, []),
  (26, [(.aload_n 0, 1, []), (.aload_n 0, 1, []), (.getfield 21, 3, [2, 3, 0]), (.iload_n 3, 1, []), (.imul, 1, []), (.nop, 0, [11])]),
  (33, []),
  (36, [(.aload_n 0, 1, []), (.aload_n 0, 1, []), (.getfield 24, 3, [2, 4, 0]), (.bipush 6, 2, []), (.imul, 1, []), (.nop, 0, [13])]),
  (44, []),
  (46, []),
  (49, [(.aload_n 0, 1, []), (.aload_n 0, 1, []), (.getfield 24, 3, [2, 4, 0]), (.nop, 0, [16])]),
  (54, []),
  (56, []),
  (59, [(.aload_n 0, 1, []), (.aload_n 0, 1, []), (.getfield 24, 3, [2, 4, 0]), (.nop, 0, [19])]),
  (64, []),
  (66, []),
  (69, [(.aload_n 0, 1, []), (.aload_n 0, 1, []), (.getfield 24, 3, [2, 4, 0]), (.nop, 0, [22])]),
  (74, []),
  (76, []),
  (79, [(.iconst 0, 1, []), (.istore 4, 2, []), (.iconst 0, 1, []), (.istore 5, 2, []), (.nop, 0, [25])]),
  (85, [(.iload 5, 2, []), (.iload_n 3, 1, []), (.if_icmp .ge 232, 3, [42]), (.iconst 0, 1, []), (.istore 6, 2, []), (.nop, 0, [26])]),
  (94, [(.iload 6, 2, []), (.iload_n 2, 1, []), (.if_icmp .ge 217, 3, [41]), (.iconst 0, 1, []), (.istore 7, 2, []), (.nop, 0, [27])]),
  (103, [(.iload 7, 2, []), (.iload_n 1, 1, []), (.if_icmp .ge 202, 3, [40]), (.aload_n 0, 1, []), (.getfield 31, 3, [2, 6, 1]), (.iload 4, 2, []), (.iload 7, 2, []), (.iastore, 1, []), (.aload_n 0, 1, []), (.getfield 34, 3, [2, 7, 1]), (.iload 4, 2, []), (.iload 6, 2, []), (.iastore, 1, []), (.aload_n 0, 1, []), (.getfield 37, 3, [2, 8, 1]), (.iload 4, 2, []), (.iload 5, 2, []), (.iastore, 1, []), (.aload_n 0, 1, []), (.getfield 27, 3, [2, 5, 1]), (.iload 4, 2, []), (.bipush 6, 2, []), (.imul, 1, []), (.iload 6, 2, []), (.ifCond .le 10, 3, [28]), (.iload 4, 2, []), (.iload_n 1, 1, []), (.isub, 1, []), (.goto 4, 3, [29])]),
  (157, [(.iconst (-1), 1, []), (.nop, 0, [29])]),
  (158, [(.iastore, 1, []), (.aload_n 0, 1, []), (.getfield 27, 3, [2, 5, 1]), (.iload 4, 2, []), (.bipush 6, 2, []), (.imul, 1, []), (.iconst 1, 1, []), (.iadd, 1, []), (.iload 7, 2, []), (.iconst 1, 1, []), (.iadd, 1, []), (.iload_n 1, 1, []), (.if_icmp .ge 10, 3, [30]), (.iload 4, 2, []), (.iconst 1, 1, []), (.iadd, 1, []), (.goto 4, 3, [31])]),
  (185, [(.iconst (-1), 1, []), (.nop, 0, [31])]),
  (186, [(.iastore, 1, []), (.aload_n 0, 1, []), (.getfield 27, 3, [2, 5, 1]), (.iload 4, 2, []), (.bipush 6, 2, []), (.imul, 1, []), (.iconst 2, 1, []), (.iadd, 1, []), (.iload 6, 2, []), (.iconst 1, 1, []), (.iadd, 1, []), (.iload_n 2, 1, []), (.if_icmp .ge 10, 3, [32]), (.iload 4, 2, []), (.iload_n 1, 1, []), (.iadd, 1, []), (.goto 4, 3, [33])]),
  (213, [(.iconst (-1), 1, []), (.nop, 0, [33])]),
  (214, [(.iastore, 1, []), (.aload_n 0, 1, []), (.getfield 27, 3, [2, 5, 1]), (.iload 4, 2, []), (.bipush 6, 2, []), (.imul, 1, []), (.iconst 3, 1, []), (.iadd, 1, []), (.iload 7, 2, []), (.ifCond .le 10, 3, [34]), (.iload 4, 2, []), (.iconst 1, 1, []), (.isub, 1, []), (.goto 4, 3, [35])]),
  (238, [(.iconst (-1), 1, []), (.nop, 0, [35])]),
  (239, [(.iastore, 1, []), (.aload_n 0, 1, []), (.getfield 27, 3, [2, 5, 1]), (.iload 4, 2, []), (.bipush 6, 2, []), (.imul, 1, []), (.iconst 4, 1, []), (.iadd, 1, []), (.iload 5, 2, []), (.iconst 1, 1, []), (.iadd, 1, []), (.iload_n 3, 1, []), (.if_icmp .ge 13, 3, [36]), (.iload 4, 2, []), (.aload_n 0, 1, []), (.getfield 21, 3, [2, 3, 0]), (.iadd, 1, []), (.goto 4, 3, [37])]),
  (269, [(.iconst (-1), 1, []), (.nop, 0, [37])]),
  (270, [(.iastore, 1, []), (.aload_n 0, 1, []), (.getfield 27, 3, [2, 5, 1]), (.iload 4, 2, []), (.bipush 6, 2, []), (.imul, 1, []), (.iconst 5, 1, []), (.iadd, 1, []), (.iload 5, 2, []), (.ifCond .le 13, 3, [38]), (.iload 4, 2, []), (.aload_n 0, 1, []), (.getfield 21, 3, [2, 3, 0]), (.isub, 1, []), (.goto 4, 3, [39])]),
  (297, [(.iconst (-1), 1, []), (.nop, 0, [39])]),
  (298, [(.iastore, 1, []), (.iinc 4 1, 3, []), (.iinc 7 1, 3, []), (.goto (-202), 3, [27])]),
  (308, [(.iinc 6 1, 3, []), (.goto (-217), 3, [26])]),
  (314, [(.iinc 5 1, 3, []), (.goto (-232), 3, [25])]),
  (320, [])]
abbrev M_X2_init : Md := (28, 2, 8, none, P_X2_init)
theorem ok_X2_init : k_okM M_X2_init := by unfold k_okM; decide +kernel
def P_X8_init : CB := [(0, [(.aload_n 0, 1, []), (.nop, 0, [1])]),
  (1, []),
  (4, [(.aload_n 0, 1, []), (.bipush 80, 2, []), (.nop, 0, [3])]),
  (7, []),
  (9, []),
  (12, [(.aload_n 0, 1, []), (.iconst 5, 1, []), (.nop, 0, [6])]),
  (14, []),
  (16, []),
  (19, [(.aload_n 0, 1, []), (.iload_n 1, 1, []), (.nop, 0, [9])]),
  (21, []),
  (24, [])]
abbrev M_X8_init : Md := (101, 8, 2, none, P_X8_init)
theorem ok_X8_init : k_okM M_X8_init := by unfold k_okM; decide +kernel
def P_X3_init : CB := [(0, [(.aload_n 0, 1, []), (.nop, 0, [1])]),
  (1, []),
  (4, [(.aload_n 0, 1, []), (.bipush 30, 2, []), (.nop, 0, [3])]),
  (7, []),
  (9, []),
  (12, [(.aload_n 0, 1, []), (.bipush 8, 2, []), (.nop, 0, [6])]),
  (15, []),
  (17, []),
  (20, [(.aload_n 0, 1, []), (.bipush 8, 2, []), (.nop, 0, [9])]),
  (23, []),
  (25, []),
  (28, [(.aload_n 0, 1, []), (.bipush 8, 2, []), (.nop, 0, [12])]),
  (31, []),
  (33, []),
  (36, [(.aload_n 0, 1, []), (.bipush 32, 2, []), (.nop, 0, [15])]),
  (39, []),
  (41, []),
  (44, [(.aload_n 0, 1, []), (.aload_n 1, 1, []), (.nop, 0, [18])]),
  (46, []),
  (49, [(.aload_n 0, 1, []), (.aload_n 1, 1, []), (.getfield 31, 3, [2, 4, 0]), (.nop, 0, [20])]),
  (54, []),
  (56, []),
  (59, [(.aload_n 0, 1, []), (.aload_n 1, 1, []), (.getfield 31, 3, [2, 4, 0]), (.nop, 0, [23])]),
  (64, []),
  (66, []),
  (69, [(.aload_n 0, 1, []), (.aload_n 1, 1, []), (.getfield 31, 3, [2, 4, 0]), (.nop, 0, [26])]),
  (74, []),
  (76, []),
  (79, [(.aload_n 0, 1, []), (.aload_n 1, 1, []), (.getfield 31, 3, [2, 4, 0]), (.bipush 8, 2, []), (.imul, 1, []), (.nop, 0, [29])]),
  (87, []),
  (89, []),
  (92, [(.aload_n 0, 1, []), (.aload_n 1, 1, []), (.getfield 31, 3, [2, 4, 0]), (.bipush 8, 2, []), (.imul, 1, []), (.nop, 0, [32])]),
  (100, []),
  (102, []),
  (105, [(.aload_n 0, 1, []), (.aload_n 1, 1, []), (.getfield 31, 3, [2, 4, 0]), (.nop, 0, [35])]),
  (110, []),
  (112, []),
  (115, [(.aload_n 0, 1, []), (.aload_n 1, 1, []), (.getfield 31, 3, [2, 4, 0]), (.bipush 8, 2, []), (.imul, 1, []), (.nop, 0, [38])]),
  (123, []),
  (125, []),
  (128, [])]
abbrev M_X3_init : Md := (31, 3, 2, none, P_X3_init)
theorem ok_X3_init : k_okM M_X3_init := by unfold k_okM; decide +kernel
def P_X6_init : CB := [(0, [(.aload_n 0, 1, []), (.nop, 0, [1])]),
  (1, []),
  (4, [(.aload_n 0, 1, []), (.iconst 3, 1, []), (.nop, 0, [3])]),
  (6, []),
  (8, []),
  (11, [(.aload_n 0, 1, []), (.aload_n 1, 1, []), (.nop, 0, [6])]),
  (13, []),
  (16, [(.aload_n 0, 1, []), (.aload_n 2, 1, []), (.nop, 0, [8])]),
  (18, []),
  (21, [(.aload_n 0, 1, []), (.aload_n 1, 1, []), (.getfield 23, 3, [2, 4, 0]), (.nop, 0, [10])]),
  (26, []),
  (28, []),
  (31, [(.aload_n 0, 1, []), (.aload_n 1, 1, []), (.getfield 23, 3, [2, 4, 0]), (.nop, 0, [13])]),
  (36, []),
  (38, []),
  (41, [(.aload_n 0, 1, []), (.aload_n 1, 1, []), (.getfield 23, 3, [2, 4, 0]), (.nop, 0, [16])]),
  (46, []),
  (48, []),
  (51, [(.aload_n 0, 1, []), (.aload_n 1, 1, []), (.getfield 23, 3, [2, 4, 0]), (.nop, 0, [19])]),
  (56, []),
  (58, []),
  (61, [(.aload_n 0, 1, []), (.aload_n 1, 1, []), (.getfield 23, 3, [2, 4, 0]), (.nop, 0, [22])]),
  (66, []),
  (68, []),
  (71, [(.aload_n 0, 1, []), (.aload_n 1, 1, []), (.getfield 23, 3, [2, 4, 0]), (.nop, 0, [25])]),
  (76, []),
  (78, []),
  (81, [])]
abbrev M_X6_init : Md := (76, 6, 3, none, P_X6_init)
theorem ok_X6_init : k_okM M_X6_init := by unfold k_okM; decide +kernel
def P_X7_init : CB := [(0, [(.aload_n 0, 1, []), (.nop, 0, [1])]),
  (1, []),
  (4, [(.aload_n 0, 1, []), (.aload_n 1, 1, []), (.nop, 0, [3])]),
  (6, []),
  (9, [(.aload_n 0, 1, []), (.aload_n 2, 1, []), (.nop, 0, [5])]),
  (11, []),
  (14, [(.aload_n 0, 1, []), (.aload_n 3, 1, []), (.nop, 0, [7])]),
  (16, []),
  (19, [(.aload_n 0, 1, []), (.aload_n 1, 1, []), (.getfield 25, 3, [2, 4, 0]), (.nop, 0, [9])]),
  (24, []),
  (26, []),
  (29, [(.aload_n 0, 1, []), (.aload_n 1, 1, []), (.getfield 25, 3, [2, 4, 0]), (.nop, 0, [12])]),
  (34, []),
  (36, []),
  (39, [(.aload_n 0, 1, []), (.aload_n 1, 1, []), (.getfield 25, 3, [2, 4, 0]), (.nop, 0, [15])]),
  (44, []),
  (46, []),
  (49, [(.aload_n 0, 1, []), (.aload_n 1, 1, []), (.getfield 25, 3, [2, 4, 0]), (.iconst 5, 1, []), (.imul, 1, []), (.nop, 0, [18])]),
  (56, []),
  (58, []),
  (61, [(.aload_n 0, 1, []), (.aload_n 1, 1, []), (.getfield 25, 3, [2, 4, 0]), (.iconst 5, 1, []), (.imul, 1, []), (.nop, 0, [21])]),
  (68, []),
  (70, []),
  (73, [(.aload_n 0, 1, []), (.aload_n 1, 1, []), (.getfield 25, 3, [2, 4, 0]), (.iconst 5, 1, []), (.imul, 1, []), (.nop, 0, [24])]),
  (80, []),
  (82, []),
  (85, [])]
abbrev M_X7_init : Md := (88, 7, 4, none, P_X7_init)
theorem ok_X7_init : k_okM M_X7_init := by unfold k_okM; decide +kernel
def P_X5_init : CB := [(0, [(.aload_n 0, 1, []), (.nop, 0, [1])]),
  (1, []),
  (4, [(.aload_n 0, 1, []), (.aload_n 1, 1, []), (.nop, 0, [3])]),
  (6, []),
  (9, [(.aload_n 0, 1, []), (.aload_n 2, 1, []), (.nop, 0, [5])]),
  (11, []),
  (14, [(.aload_n 0, 1, []), (.aload_n 3, 1, []), (.nop, 0, [7])]),
  (16, []),
  (19, [(.aload_n 0, 1, []), (.aload 4, 2, []), (.nop, 0, [9])]),
  (22, []),
  (25, [(.aload_n 0, 1, []), (.aload_n 1, 1, []), (.getfield 27, 3, [2, 4, 0]), (.nop, 0, [11])]),
  (30, []),
  (32, []),
  (35, [(.aload_n 0, 1, []), (.aload_n 1, 1, []), (.getfield 27, 3, [2, 4, 0]), (.nop, 0, [14])]),
  (40, []),
  (42, []),
  (45, [])]
abbrev M_X5_init : Md := (67, 5, 5, none, P_X5_init)
theorem ok_X5_init : k_okM M_X5_init := by unfold k_okM; decide +kernel
def P_X1_init : CB := [(0, [(.aload_n 0, 1, []), (.nop, 0, [1])]),
  (1, []),
  (4, [(.aload_n 0, 1, []), (.aload_n 1, 1, []), (.nop, 0, [3])]),
  (6, []),
  (9, [(.aload_n 0, 1, []), (.aload_n 2, 1, []), (.nop, 0, [5])]),
  (11, []),
  (14, [(.aload_n 0, 1, []), (.aload_n 3, 1, []), (.nop, 0, [7])]),
  (16, []),
  (19, [(.aload_n 0, 1, []), (.aload 4, 2, []), (.nop, 0, [9])]),
  (22, []),
  (25, [])]
abbrev M_X1_init : Md := (17, 1, 5, none, P_X1_init)
theorem ok_X1_init : k_okM M_X1_init := by unfold k_okM; decide +kernel
def P_X10_init : CB := [(0, [(.aload_n 0, 1, []), (.nop, 0, [1])]),
  (1, []),
  (4, [(.aload_n 0, 1, []), (.iconst 3, 1, []), (.nop, 0, [3])]),
  (6, []),
  (8, []),
  (11, [(.aload_n 0, 1, []), (.iconst 3, 1, []), (.nop, 0, [6])]),
  (13, []),
  (15, []),
  (18, [(.aload_n 0, 1, []), (.iconst 3, 1, []), (.nop, 0, [9])]),
  (20, []),
  (22, []),
  (25, [(.aload_n 0, 1, []), (.aload_n 1, 1, []), (.nop, 0, [12])]),
  (27, []),
  (30, [(.aload_n 0, 1, []), (.aload_n 2, 1, []), (.nop, 0, [14])]),
  (32, []),
  (35, [(.aload_n 0, 1, []), (.aload_n 3, 1, []), (.nop, 0, [16])]),
  (37, []),
  (40, [(.iconst 0, 1, []), (.istore 4, 2, []), (.nop, 0, [18])]),
  (43, [(.iload 4, 2, []), (.aload_n 1, 1, []), (.getfield 33, 3, [2, 4, 0]), (.if_icmp .ge 134, 3, [27]), (.iload 4, 2, []), (.bipush 24, 2, []), (.if_icmp .ge 127, 3, [27]), (.iconst 1, 1, []), (.iload 4, 2, []), (.ishl, 1, []), (.istore 5, 2, []), (.aload_n 0, 1, []), (.dup, 1, []), (.getfield 39, 3, [10, 7, 0]), (.aload_n 1, 1, []), (.getfield 42, 3, [2, 6, 1]), (.iload 4, 2, []), (.iaload, 1, []), (.ifCond .le 8, 3, [19]), (.iload 5, 2, []), (.goto 4, 3, [20])]),
  (85, [(.iconst 0, 1, []), (.nop, 0, [20])]),
  (86, [(.ior, 1, []), (.putfield 39, 3, [10, 7, 0]), (.aload_n 0, 1, []), (.dup, 1, []), (.getfield 45, 3, [10, 8, 0]), (.aload_n 1, 1, []), (.getfield 42, 3, [2, 6, 1]), (.iload 4, 2, []), (.iaload, 1, []), (.aload_n 1, 1, []), (.getfield 48, 3, [2, 0, 0]), (.iconst 1, 1, []), (.isub, 1, []), (.if_icmp .ge 8, 3, [21]), (.iload 5, 2, []), (.goto 4, 3, [22])]),
  (116, [(.iconst 0, 1, []), (.nop, 0, [22])]),
  (117, [(.ior, 1, []), (.putfield 45, 3, [10, 8, 0]), (.aload_n 0, 1, []), (.dup, 1, []), (.getfield 51, 3, [10, 9, 0]), (.aload_n 1, 1, []), (.getfield 54, 3, [2, 7, 1]), (.iload 4, 2, []), (.iaload, 1, []), (.ifCond .le 8, 3, [23]), (.iload 5, 2, []), (.goto 4, 3, [24])]),
  (141, [(.iconst 0, 1, []), (.nop, 0, [24])]),
  (142, [(.ior, 1, []), (.putfield 51, 3, [10, 9, 0]), (.aload_n 0, 1, []), (.dup, 1, []), (.getfield 57, 3, [10, 10, 0]), (.aload_n 1, 1, []), (.getfield 54, 3, [2, 7, 1]), (.iload 4, 2, []), (.iaload, 1, []), (.aload_n 1, 1, []), (.getfield 60, 3, [2, 1, 0]), (.iconst 1, 1, []), (.isub, 1, []), (.if_icmp .ge 8, 3, [25]), (.iload 5, 2, []), (.goto 4, 3, [26])]),
  (172, [(.iconst 0, 1, []), (.nop, 0, [26])]),
  (173, [(.ior, 1, []), (.putfield 57, 3, [10, 10, 0]), (.iinc 4 1, 3, []), (.goto (-137), 3, [18])]),
  (183, [])]
abbrev M_X10_init : Md := (119, 10, 6, none, P_X10_init)
theorem ok_X10_init : k_okM M_X10_init := by unfold k_okM; decide +kernel
def P_X4_init : CB := [(0, [(.aload_n 0, 1, []), (.nop, 0, [1])]),
  (1, []),
  (4, [(.aload_n 0, 1, []), (.aload_n 1, 1, []), (.nop, 0, [3])]),
  (6, []),
  (9, [(.aload_n 0, 1, []), (.aload_n 2, 1, []), (.nop, 0, [5])]),
  (11, []),
  (14, [(.aload_n 0, 1, []), (.aload_n 3, 1, []), (.nop, 0, [7])]),
  (16, []),
  (19, [])]
abbrev M_X4_init : Md := (60, 4, 4, none, P_X4_init)
theorem ok_X4_init : k_okM M_X4_init := by unfold k_okM; decide +kernel
def P_X0_init : CB := [(0, [(.aload_n 0, 1, []), (.nop, 0, [1])]),
  (1, []),
  (4, [(.aload_n 0, 1, []), (.aload_n 1, 1, []), (.nop, 0, [3])]),
  (6, []),
  (9, [(.aload_n 0, 1, []), (.aload_n 2, 1, []), (.nop, 0, [5])]),
  (11, []),
  (14, [(.aload_n 0, 1, []), (.aload_n 1, 1, []), (.getfield 19, 3, [2, 2, 0]), (.iconst 1, 1, []), (.iadd, 1, []), (.nop, 0, [7])]),
  (21, []),
  (23, []),
  (26, [(.aload_n 0, 1, []), (.getfield 25, 3, [0, 2, 1]), (.iconst 1, 1, []), (.invokestatic 29, 3, [323, 2]), (.aload_n 0, 1, []), (.getfield 25, 3, [0, 2, 1]), (.iconst 0, 1, []), (.iconst 0, 1, []), (.iastore, 1, []), (.aload_n 0, 1, []), (.aload_n 1, 1, []), (.getfield 35, 3, [2, 4, 0]), (.nop, 0, [10])]),
  (46, []),
  (48, []),
  (51, [(.aload_n 0, 1, []), (.aload_n 1, 1, []), (.getfield 35, 3, [2, 4, 0]), (.nop, 0, [13])]),
  (56, []),
  (58, []),
  (61, [(.aload_n 0, 1, []), (.aload_n 1, 1, []), (.getfield 35, 3, [2, 4, 0]), (.nop, 0, [16])]),
  (66, []),
  (68, []),
  (71, [])]
abbrev M_X0_init : Md := (0, 0, 3, none, P_X0_init)
theorem ok_X0_init : k_okM M_X0_init := by unfold k_okM; decide +kernel
def P_X9_init : CB := [(0, [(.aload_n 0, 1, []), (.nop, 0, [1])]),
  (1, []),
  (4, [(.aload_n 0, 1, []), (.aload_n 1, 1, []), (.nop, 0, [3])]),
  (6, []),
  (9, [(.aload_n 0, 1, []), (.aload_n 2, 1, []), (.nop, 0, [5])]),
  (11, []),
  (14, [(.aload_n 0, 1, []), (.aload_n 3, 1, []), (.nop, 0, [7])]),
  (16, []),
  (19, [(.aload_n 0, 1, []), (.aload_n 1, 1, []), (.getfield 23, 3, [2, 4, 0]), (.iconst 1, 1, []), (.iadd, 1, []), (.nop, 0, [9])]),
  (26, []),
  (28, []),
  (31, [(.aload_n 0, 1, []), (.aload_n 1, 1, []), (.getfield 23, 3, [2, 4, 0]), (.iconst 1, 1, []), (.iadd, 1, []), (.nop, 0, [12])]),
  (38, []),
  (40, []),
  (43, [])]
abbrev M_X9_init : Md := (111, 9, 4, none, P_X9_init)
theorem ok_X9_init : k_okM M_X9_init := by unfold k_okM; decide +kernel
def P_X11_init : CB := [(0, [(.aload_n 0, 1, []), (.nop, 0, [1])]),
  (1, []),
  (4, [(.aload_n 0, 1, []), (.nop, 0, [3])]),
  (5, []),
  (8, [(.dup, 1, []), (.iload_n 1, 1, []), (.iconst 2, 1, []), (.bipush 9, 2, []), (.invokestatic 9, 3, [172, 3]), (.iload_n 2, 1, []), (.iconst 2, 1, []), (.bipush 9, 2, []), (.invokestatic 9, 3, [172, 3]), (.iload_n 3, 1, []), (.iconst 1, 1, []), (.iconst 4, 1, []), (.invokestatic 9, 3, [172, 3]), (.nop, 0, [5])]),
  (29, []),
  (32, []),
  (35, [(.aload_n 0, 1, []), (.nop, 0, [8])]),
  (36, []),
  (39, [(.dup, 1, []), (.aload_n 0, 1, []), (.getfield 18, 3, [11, 0, 1]), (.getfield 24, 3, [2, 2, 0]), (.nop, 0, [10])]),
  (47, []),
  (50, []),
  (53, [(.aload_n 0, 1, []), (.nop, 0, [13])]),
  (54, []),
  (57, [(.dup, 1, []), (.aload_n 0, 1, []), (.getfield 18, 3, [11, 0, 1]), (.nop, 0, [15])]),
  (62, []),
  (65, []),
  (68, [(.aload_n 0, 1, []), (.nop, 0, [18])]),
  (69, []),
  (72, [(.dup, 1, []), (.aload_n 0, 1, []), (.getfield 18, 3, [11, 0, 1]), (.aload_n 0, 1, []), (.getfield 40, 3, [11, 2, 1]), (.nop, 0, [20])]),
  (81, []),
  (84, []),
  (87, [(.aload_n 0, 1, []), (.nop, 0, [23])]),
  (88, []),
  (91, [(.dup, 1, []), (.aload_n 0, 1, []), (.getfield 18, 3, [11, 0, 1]), (.aload_n 0, 1, []), (.getfield 40, 3, [11, 2, 1]), (.aload_n 0, 1, []), (.getfield 49, 3, [11, 3, 1]), (.nop, 0, [25])]),
  (104, []),
  (107, []),
  (110, [(.aload_n 0, 1, []), (.nop, 0, [28])]),
  (111, []),
  (114, [(.dup, 1, []), (.aload_n 0, 1, []), (.getfield 18, 3, [11, 0, 1]), (.aload_n 0, 1, []), (.getfield 40, 3, [11, 2, 1]), (.aload_n 0, 1, []), (.getfield 49, 3, [11, 3, 1]), (.aload_n 0, 1, []), (.getfield 58, 3, [11, 4, 1]), (.nop, 0, [30])]),
  (131, []),
  (134, []),
  (137, [(.aload_n 0, 1, []), (.nop, 0, [33])]),
  (138, []),
  (141, [(.dup, 1, []), (.aload_n 0, 1, []), (.getfield 18, 3, [11, 0, 1]), (.aload_n 0, 1, []), (.getfield 40, 3, [11, 2, 1]), (.aload_n 0, 1, []), (.getfield 49, 3, [11, 3, 1]), (.aload_n 0, 1, []), (.getfield 58, 3, [11, 4, 1]), (.nop, 0, [35])]),
  (158, []),
  (161, []),
  (164, [(.aload_n 0, 1, []), (.nop, 0, [38])]),
  (165, []),
  (168, [(.dup, 1, []), (.aload_n 0, 1, []), (.getfield 18, 3, [11, 0, 1]), (.aload_n 0, 1, []), (.getfield 40, 3, [11, 2, 1]), (.aload_n 0, 1, []), (.getfield 49, 3, [11, 3, 1]), (.nop, 0, [40])]),
  (181, []),
  (184, []),
  (187, [(.aload_n 0, 1, []), (.nop, 0, [43])]),
  (188, []),
  (191, [(.dup, 1, []), (.aload_n 0, 1, []), (.getfield 18, 3, [11, 0, 1]), (.aload_n 0, 1, []), (.getfield 40, 3, [11, 2, 1]), (.aload_n 0, 1, []), (.getfield 49, 3, [11, 3, 1]), (.nop, 0, [45])]),
  (204, []),
  (207, []),
  (210, [(.aload_n 0, 1, []), (.nop, 0, [48])]),
  (211, []),
  (214, [(.dup, 1, []), (.aload_n 0, 1, []), (.getfield 18, 3, [11, 0, 1]), (.aload_n 0, 1, []), (.getfield 40, 3, [11, 2, 1]), (.nop, 0, [50])]),
  (223, []),
  (226, []),
  (229, [(.aload_n 0, 1, []), (.nop, 0, [53])]),
  (230, []),
  (233, [(.dup, 1, []), (.aload_n 0, 1, []), (.getfield 18, 3, [11, 0, 1]), (.aload_n 0, 1, []), (.getfield 40, 3, [11, 2, 1]), (.aload_n 0, 1, []), (.getfield 49, 3, [11, 3, 1]), (.nop, 0, [55])]),
  (246, []),
  (249, []),
  (252, [])]
abbrev M_X11_init : Md := (129, 11, 4, none, P_X11_init)
theorem ok_X11_init : k_okM M_X11_init := by unfold k_okM; decide +kernel
def P_X12_init : CB := [(0, [(.aload_n 0, 1, []), (.nop, 0, [1])]),
  (1, []),
  (4, [(.aload_n 0, 1, []), (.bipush 80, 2, []), (.nop, 0, [3])]),
  (7, []),
  (9, []),
  (12, [(.aload_n 0, 1, []), (.bipush 7, 2, []), (.nop, 0, [6])]),
  (15, []),
  (17, []),
  (20, [(.aload_n 0, 1, []), (.bipush 7, 2, []), (.nop, 0, [9])]),
  (23, []),
  (25, []),
  (28, [(.aload_n 0, 1, []), (.bipush 7, 2, []), (.nop, 0, [12])]),
  (31, []),
  (33, []),
  (36, [(.aload_n 0, 1, []), (.bipush 7, 2, []), (.nop, 0, [15])]),
  (39, []),
  (41, []),
  (44, [(.aload_n 0, 1, []), (.bipush 7, 2, []), (.nop, 0, [18])]),
  (47, []),
  (49, []),
  (52, [(.aload_n 0, 1, []), (.bipush 8, 2, []), (.nop, 0, [21])]),
  (55, []),
  (57, []),
  (60, [(.aload_n 0, 1, []), (.bipush 8, 2, []), (.nop, 0, [24])]),
  (63, []),
  (65, []),
  (68, [(.aload_n 0, 1, []), (.bipush 8, 2, []), (.nop, 0, [27])]),
  (71, []),
  (73, []),
  (76, [(.aload_n 0, 1, []), (.bipush 32, 2, []), (.nop, 0, [30])]),
  (79, []),
  (81, []),
  (84, [(.aload_n 0, 1, []), (.bipush 8, 2, []), (.nop, 0, [33])]),
  (87, []),
  (89, []),
  (92, [(.aload_n 0, 1, []), (.sipush 9600, 3, []), (.nop, 0, [36])]),
  (96, []),
  (98, []),
  (101, [(.aload_n 0, 1, []), (.sipush 9600, 3, []), (.nop, 0, [39])]),
  (105, []),
  (107, []),
  (110, [(.aload_n 0, 1, []), (.bipush 8, 2, []), (.nop, 0, [42])]),
  (113, []),
  (115, []),
  (118, [(.aload_n 0, 1, []), (.sipush 19200, 3, []), (.nop, 0, [45])]),
  (122, []),
  (124, []),
  (127, [(.aload_n 0, 1, []), (.sipush 19200, 3, []), (.nop, 0, [48])]),
  (131, []),
  (133, []),
  (136, [(.aload_n 0, 1, []), (.sipush 324, 3, []), (.nop, 0, [51])]),
  (140, []),
  (142, []),
  (145, [(.aload_n 0, 1, []), (.sipush 2592, 3, []), (.nop, 0, [54])]),
  (149, []),
  (151, []),
  (154, [(.aload_n 0, 1, []), (.sipush 2400, 3, []), (.nop, 0, [57])]),
  (158, []),
  (160, []),
  (163, [(.aload_n 0, 1, []), (.sipush 2400, 3, []), (.nop, 0, [60])]),
  (167, []),
  (169, []),
  (172, [(.aload_n 0, 1, []), (.sipush 19200, 3, []), (.nop, 0, [63])]),
  (176, []),
  (178, []),
  (181, [(.aload_n 0, 1, []), (.sipush 19200, 3, []), (.nop, 0, [66])]),
  (185, []),
  (187, []),
  (190, [(.aload_n 0, 1, []), (.bipush 8, 2, []), (.nop, 0, [69])]),
  (193, []),
  (195, []),
  (198, [(.aload_n 0, 1, []), (.sipush 324, 3, []), (.nop, 0, [72])]),
  (202, []),
  (204, []),
  (207, [(.aload_n 0, 1, []), (.sipush 1620, 3, []), (.nop, 0, [75])]),
  (211, []),
  (213, []),
  (216, [(.aload_n 0, 1, []), (.sipush 324, 3, []), (.nop, 0, [78])]),
  (220, []),
  (222, []),
  (225, [(.aload_n 0, 1, []), (.sipush 324, 3, []), (.nop, 0, [81])]),
  (229, []),
  (231, []),
  (234, [(.aload_n 0, 1, []), (.sipush 324, 3, []), (.nop, 0, [84])]),
  (238, []),
  (240, []),
  (243, [(.aload_n 0, 1, []), (.sipush 324, 3, []), (.nop, 0, [87])]),
  (247, []),
  (249, []),
  (252, [(.aload_n 0, 1, []), (.sipush 324, 3, []), (.nop, 0, [90])]),
  (256, []),
  (258, []),
  (261, [(.aload_n 0, 1, []), (.bipush 81, 2, []), (.nop, 0, [93])]),
  (264, []),
  (266, []),
  (269, [(.aload_n 0, 1, []), (.bipush 81, 2, []), (.nop, 0, [96])]),
  (272, []),
  (274, []),
  (277, [(.aload_n 0, 1, []), (.sipush 2592, 3, []), (.nop, 0, [99])]),
  (281, []),
  (283, []),
  (286, [(.aload_n 0, 1, []), (.iconst 5, 1, []), (.nop, 0, [102])]),
  (288, []),
  (290, [(.dup, 1, []), (.iconst 0, 1, []), (.iconst 1, 1, []), (.iastore, 1, []), (.dup, 1, []), (.iconst 1, 1, []), (.iconst 1, 1, []), (.iastore, 1, []), (.dup, 1, []), (.iconst 2, 1, []), (.iconst 1, 1, []), (.iastore, 1, []), (.dup, 1, []), (.iconst 3, 1, []), (.iconst 1, 1, []), (.iastore, 1, []), (.dup, 1, []), (.iconst 4, 1, []), (.iconst 0, 1, []), (.iastore, 1, []), (.nop, 0, [104])]),
  (310, []),
  (313, [(.aload_n 0, 1, []), (.sipush 19200, 3, []), (.nop, 0, [106])]),
  (317, []),
  (319, []),
  (322, [(.aload_n 0, 1, []), (.sipush 19200, 3, []), (.nop, 0, [109])]),
  (326, []),
  (328, []),
  (331, [(.aload_n 0, 1, []), (.bipush 8, 2, []), (.nop, 0, [112])]),
  (334, []),
  (336, []),
  (339, [(.aload_n 0, 1, []), (.iload_n 1, 1, []), (.iconst 2, 1, []), (.bipush 9, 2, []), (.invokestatic 131, 3, [180, 3]), (.nop, 0, [115])]),
  (347, []),
  (350, [(.aload_n 0, 1, []), (.iload_n 2, 1, []), (.iconst 2, 1, []), (.bipush 9, 2, []), (.invokestatic 131, 3, [180, 3]), (.nop, 0, [117])]),
  (358, []),
  (361, [(.aload_n 0, 1, []), (.iload_n 3, 1, []), (.iconst 1, 1, []), (.iconst 4, 1, []), (.invokestatic 131, 3, [180, 3]), (.nop, 0, [119])]),
  (368, []),
  (371, [])]
abbrev M_X12_init : Md := (181, 12, 4, none, P_X12_init)
theorem ok_X12_init : k_okM M_X12_init := by unfold k_okM; decide +kernel
end
section
/-! the plain constructors (written by wip/whole/genctor2.py) -/
set_option maxRecDepth 100000 in
theorem n_X3_init (B : Bs) (n ly : Nat) (hn : n ≤ 324) (r0 : List (Option Nat)) (m : Mem) (hc : m 1 4 = (n : Int)) : kNew B 1 M_X3_init.1 [vR 9, vR 1] (gS n ly 10 r0 9 3 (k_nulls 3)) (gS n ly 22 r0 9 3 [some 1, some 10, some 11, some 12, some 13, some 14, some 15, some 16, some 17, some 18, some 19, some 20, some 21, none, none]) m 12 9158 (fun m' => m' = mzs m [10, 11, 12, 13, 14, 15, 16, 17, 18, 19, 20, 21]) := by
  have hc8 : m 1 4 * 8 = ((n * 8 : Nat) : Int) := by rw [hc]; omega
  have hc5 : m 1 4 * 5 = ((n * 5 : Nat) : Int) := by rw [hc]; omega
  have hc1 : m 1 4 + 1 = ((n + 1 : Nat) : Int) := by rw [hc]; omega
  have hi8 : inR (m 1 4 * 8) := by rw [hc8]; constructor <;> omega
  have hi5 : inR (m 1 4 * 5) := by rw [hc5]; constructor <;> omega
  have hi1 : inR (m 1 4 + 1) := by rw [hc1]; constructor <;> omega
  refine c_start ok_X3_init rfl rfl rfl (Nat.le_of_ble_eq_true rfl) (fun p e s mm args below meth c Qf ad0 A hX hin hend => ?_)
  refine c_seg hX ok_X3_init (Nat.le_of_ble_eq_true rfl) (Nat.le_of_ble_eq_true rfl) 0 ⟨_, rfl, rfl, rfl, rfl, rfl⟩ ?_
  refine c_obj hX (idx := 3) (pos := 286) (by decide +kernel) (by decide +kernel) rfl rfl rfl ?_
  refine c_seg hX ok_X3_init (Nat.le_of_ble_eq_true rfl) (Nat.le_of_ble_eq_true rfl) 2 ⟨_, rfl, rfl, rfl, rfl, rfl⟩ ?_
  refine c_newa hX (atype := .int) (ft := .int) (ty := 0) (n := 30) (o := 10) (cells' := 1) (slots' := 30) (G' := gS n ly 11 r0 9 3 [none, none, none, none, none, none, none, none, none, none, none, none, none, none, none]) 253 (by decide +kernel) rfl rfl (Or.inl ⟨rfl, rfl⟩) (by decide +kernel) rfl rfl rfl rfl (by omega) rfl rfl (Nat.le_of_ble_eq_true rfl) (by show 0 + 30 ≤ 9158; omega) (Nat.le_refl _) (by omega) ?_
  refine c_putR hX hin (idx := 9) (ci := 3) (k := 1) (o := 9) (q := 10) (rs := [none, none, none, none, none, none, none, none, none, none, none, none, none, none, none]) (rs' := [none, some 10, none, none, none, none, none, none, none, none, none, none, none, none, none]) (G' := gS n ly 11 r0 9 3 [none, some 10, none, none, none, none, none, none, none, none, none, none, none, none, none]) (by decide +kernel) (by decide +kernel) rfl rfl rfl (fun _ => ⟨rfl, rfl⟩) rfl rfl rfl rfl ?_
  refine c_seg hX ok_X3_init (Nat.le_of_ble_eq_true rfl) (Nat.le_of_ble_eq_true rfl) 5 ⟨_, rfl, rfl, rfl, rfl, rfl⟩ ?_
  refine c_newa hX (atype := .int) (ft := .int) (ty := 0) (n := 8) (o := 11) (cells' := 2) (slots' := 38) (G' := gS n ly 12 r0 9 3 [none, some 10, none, none, none, none, none, none, none, none, none, none, none, none, none]) 253 (by decide +kernel) rfl rfl (Or.inl ⟨rfl, rfl⟩) (by decide +kernel) rfl rfl rfl rfl (by omega) rfl rfl (Nat.le_of_ble_eq_true rfl) (by show 30 + 8 ≤ 9158; omega) (Nat.le_refl _) (by omega) ?_
  refine c_putR hX hin (idx := 15) (ci := 3) (k := 2) (o := 9) (q := 11) (rs := [none, some 10, none, none, none, none, none, none, none, none, none, none, none, none, none]) (rs' := [none, some 10, some 11, none, none, none, none, none, none, none, none, none, none, none, none]) (G' := gS n ly 12 r0 9 3 [none, some 10, some 11, none, none, none, none, none, none, none, none, none, none, none, none]) (by decide +kernel) (by decide +kernel) rfl rfl rfl (fun _ => ⟨rfl, rfl⟩) rfl rfl rfl rfl ?_
  refine c_seg hX ok_X3_init (Nat.le_of_ble_eq_true rfl) (Nat.le_of_ble_eq_true rfl) 8 ⟨_, rfl, rfl, rfl, rfl, rfl⟩ ?_
  refine c_newa hX (atype := .int) (ft := .int) (ty := 0) (n := 8) (o := 12) (cells' := 3) (slots' := 46) (G' := gS n ly 13 r0 9 3 [none, some 10, some 11, none, none, none, none, none, none, none, none, none, none, none, none]) 253 (by decide +kernel) rfl rfl (Or.inl ⟨rfl, rfl⟩) (by decide +kernel) rfl rfl rfl rfl (by omega) rfl rfl (Nat.le_of_ble_eq_true rfl) (by show 38 + 8 ≤ 9158; omega) (Nat.le_refl _) (by omega) ?_
  refine c_putR hX hin (idx := 18) (ci := 3) (k := 3) (o := 9) (q := 12) (rs := [none, some 10, some 11, none, none, none, none, none, none, none, none, none, none, none, none]) (rs' := [none, some 10, some 11, some 12, none, none, none, none, none, none, none, none, none, none, none]) (G' := gS n ly 13 r0 9 3 [none, some 10, some 11, some 12, none, none, none, none, none, none, none, none, none, none, none]) (by decide +kernel) (by decide +kernel) rfl rfl rfl (fun _ => ⟨rfl, rfl⟩) rfl rfl rfl rfl ?_
  refine c_seg hX ok_X3_init (Nat.le_of_ble_eq_true rfl) (Nat.le_of_ble_eq_true rfl) 11 ⟨_, rfl, rfl, rfl, rfl, rfl⟩ ?_
  refine c_newa hX (atype := .int) (ft := .int) (ty := 0) (n := 8) (o := 13) (cells' := 4) (slots' := 54) (G' := gS n ly 14 r0 9 3 [none, some 10, some 11, some 12, none, none, none, none, none, none, none, none, none, none, none]) 253 (by decide +kernel) rfl rfl (Or.inl ⟨rfl, rfl⟩) (by decide +kernel) rfl rfl rfl rfl (by omega) rfl rfl (Nat.le_of_ble_eq_true rfl) (by show 46 + 8 ≤ 9158; omega) (Nat.le_refl _) (by omega) ?_
  refine c_putR hX hin (idx := 21) (ci := 3) (k := 4) (o := 9) (q := 13) (rs := [none, some 10, some 11, some 12, none, none, none, none, none, none, none, none, none, none, none]) (rs' := [none, some 10, some 11, some 12, some 13, none, none, none, none, none, none, none, none, none, none]) (G' := gS n ly 14 r0 9 3 [none, some 10, some 11, some 12, some 13, none, none, none, none, none, none, none, none, none, none]) (by decide +kernel) (by decide +kernel) rfl rfl rfl (fun _ => ⟨rfl, rfl⟩) rfl rfl rfl rfl ?_
  refine c_seg hX ok_X3_init (Nat.le_of_ble_eq_true rfl) (Nat.le_of_ble_eq_true rfl) 14 ⟨_, rfl, rfl, rfl, rfl, rfl⟩ ?_
  refine c_newa hX (atype := .int) (ft := .int) (ty := 0) (n := 32) (o := 14) (cells' := 5) (slots' := 86) (G' := gS n ly 15 r0 9 3 [none, some 10, some 11, some 12, some 13, none, none, none, none, none, none, none, none, none, none]) 253 (by decide +kernel) rfl rfl (Or.inl ⟨rfl, rfl⟩) (by decide +kernel) rfl rfl rfl rfl (by omega) rfl rfl (Nat.le_of_ble_eq_true rfl) (by show 54 + 32 ≤ 9158; omega) (Nat.le_refl _) (by omega) ?_
  refine c_putR hX hin (idx := 24) (ci := 3) (k := 5) (o := 9) (q := 14) (rs := [none, some 10, some 11, some 12, some 13, none, none, none, none, none, none, none, none, none, none]) (rs' := [none, some 10, some 11, some 12, some 13, some 14, none, none, none, none, none, none, none, none, none]) (G' := gS n ly 15 r0 9 3 [none, some 10, some 11, some 12, some 13, some 14, none, none, none, none, none, none, none, none, none]) (by decide +kernel) (by decide +kernel) rfl rfl rfl (fun _ => ⟨rfl, rfl⟩) rfl rfl rfl rfl ?_
  refine c_seg hX ok_X3_init (Nat.le_of_ble_eq_true rfl) (Nat.le_of_ble_eq_true rfl) 17 ⟨_, rfl, rfl, rfl, rfl, rfl⟩ ?_
  refine c_putR hX hin (idx := 27) (ci := 3) (k := 0) (o := 9) (q := 1) (rs := [none, some 10, some 11, some 12, some 13, some 14, none, none, none, none, none, none, none, none, none]) (rs' := [some 1, some 10, some 11, some 12, some 13, some 14, none, none, none, none, none, none, none, none, none]) (G' := gS n ly 15 r0 9 3 [some 1, some 10, some 11, some 12, some 13, some 14, none, none, none, none, none, none, none, none, none]) (by decide +kernel) (by decide +kernel) rfl rfl rfl (fun _ => ⟨rfl, rfl⟩) rfl rfl rfl rfl ?_
  refine c_seg hX ok_X3_init (Nat.le_of_ble_eq_true rfl) (Nat.le_of_ble_eq_true rfl) 19 ⟨_, rfl, rfl, rfl, rfl, rfl⟩ ?_
  refine c_newa hX (atype := .int) (ft := .int) (ty := 0) (n := n) (o := 15) (cells' := 6) (slots' := 410) (G' := gS n ly 16 r0 9 3 [some 1, some 10, some 11, some 12, some 13, some 14, none, none, none, none, none, none, none, none, none]) 253 (by decide +kernel) rfl rfl (Or.inl ⟨rfl, rfl⟩) (by decide +kernel) rfl rfl rfl hc (by omega) rfl rfl (Nat.le_of_ble_eq_true rfl) (by show 86 + n ≤ 9158; omega) (Nat.le_refl _) (by omega) ?_
  refine c_putR hX hin (idx := 37) (ci := 3) (k := 6) (o := 9) (q := 15) (rs := [some 1, some 10, some 11, some 12, some 13, some 14, none, none, none, none, none, none, none, none, none]) (rs' := [some 1, some 10, some 11, some 12, some 13, some 14, some 15, none, none, none, none, none, none, none, none]) (G' := gS n ly 16 r0 9 3 [some 1, some 10, some 11, some 12, some 13, some 14, some 15, none, none, none, none, none, none, none, none]) (by decide +kernel) (by decide +kernel) rfl rfl rfl (fun _ => ⟨rfl, rfl⟩) rfl rfl rfl rfl ?_
  refine c_seg hX ok_X3_init (Nat.le_of_ble_eq_true rfl) (Nat.le_of_ble_eq_true rfl) 22 ⟨_, rfl, rfl, rfl, rfl, rfl⟩ ?_
  refine c_newa hX (atype := .int) (ft := .int) (ty := 0) (n := n) (o := 16) (cells' := 7) (slots' := 734) (G' := gS n ly 17 r0 9 3 [some 1, some 10, some 11, some 12, some 13, some 14, some 15, none, none, none, none, none, none, none, none]) 253 (by decide +kernel) rfl rfl (Or.inl ⟨rfl, rfl⟩) (by decide +kernel) rfl rfl rfl hc (by omega) rfl rfl (Nat.le_of_ble_eq_true rfl) (by show 410 + n ≤ 9158; omega) (Nat.le_refl _) (by omega) ?_
  refine c_putR hX hin (idx := 40) (ci := 3) (k := 7) (o := 9) (q := 16) (rs := [some 1, some 10, some 11, some 12, some 13, some 14, some 15, none, none, none, none, none, none, none, none]) (rs' := [some 1, some 10, some 11, some 12, some 13, some 14, some 15, some 16, none, none, none, none, none, none, none]) (G' := gS n ly 17 r0 9 3 [some 1, some 10, some 11, some 12, some 13, some 14, some 15, some 16, none, none, none, none, none, none, none]) (by decide +kernel) (by decide +kernel) rfl rfl rfl (fun _ => ⟨rfl, rfl⟩) rfl rfl rfl rfl ?_
  refine c_seg hX ok_X3_init (Nat.le_of_ble_eq_true rfl) (Nat.le_of_ble_eq_true rfl) 25 ⟨_, rfl, rfl, rfl, rfl, rfl⟩ ?_
  refine c_newa hX (atype := .int) (ft := .int) (ty := 0) (n := n) (o := 17) (cells' := 8) (slots' := 1058) (G' := gS n ly 18 r0 9 3 [some 1, some 10, some 11, some 12, some 13, some 14, some 15, some 16, none, none, none, none, none, none, none]) 253 (by decide +kernel) rfl rfl (Or.inl ⟨rfl, rfl⟩) (by decide +kernel) rfl rfl rfl hc (by omega) rfl rfl (Nat.le_of_ble_eq_true rfl) (by show 734 + n ≤ 9158; omega) (Nat.le_refl _) (by omega) ?_
  refine c_putR hX hin (idx := 43) (ci := 3) (k := 8) (o := 9) (q := 17) (rs := [some 1, some 10, some 11, some 12, some 13, some 14, some 15, some 16, none, none, none, none, none, none, none]) (rs' := [some 1, some 10, some 11, some 12, some 13, some 14, some 15, some 16, some 17, none, none, none, none, none, none]) (G' := gS n ly 18 r0 9 3 [some 1, some 10, some 11, some 12, some 13, some 14, some 15, some 16, some 17, none, none, none, none, none, none]) (by decide +kernel) (by decide +kernel) rfl rfl rfl (fun _ => ⟨rfl, rfl⟩) rfl rfl rfl rfl ?_
  refine c_seg hX ok_X3_init (Nat.le_of_ble_eq_true rfl) (Nat.le_of_ble_eq_true rfl) 28 ⟨_, rfl, hi8, rfl, rfl, rfl, rfl⟩ ?_
  refine c_newa hX (atype := .int) (ft := .int) (ty := 0) (n := (n * 8)) (o := 18) (cells' := 9) (slots' := 3650) (G' := gS n ly 19 r0 9 3 [some 1, some 10, some 11, some 12, some 13, some 14, some 15, some 16, some 17, none, none, none, none, none, none]) 253 (by decide +kernel) rfl rfl (Or.inl ⟨rfl, rfl⟩) (by decide +kernel) rfl rfl rfl hc8 (by omega) rfl rfl (Nat.le_of_ble_eq_true rfl) (by show 1058 + (n * 8) ≤ 9158; omega) (Nat.le_refl _) (by omega) ?_
  refine c_putR hX hin (idx := 46) (ci := 3) (k := 9) (o := 9) (q := 18) (rs := [some 1, some 10, some 11, some 12, some 13, some 14, some 15, some 16, some 17, none, none, none, none, none, none]) (rs' := [some 1, some 10, some 11, some 12, some 13, some 14, some 15, some 16, some 17, some 18, none, none, none, none, none]) (G' := gS n ly 19 r0 9 3 [some 1, some 10, some 11, some 12, some 13, some 14, some 15, some 16, some 17, some 18, none, none, none, none, none]) (by decide +kernel) (by decide +kernel) rfl rfl rfl (fun _ => ⟨rfl, rfl⟩) rfl rfl rfl rfl ?_
  refine c_seg hX ok_X3_init (Nat.le_of_ble_eq_true rfl) (Nat.le_of_ble_eq_true rfl) 31 ⟨_, rfl, hi8, rfl, rfl, rfl, rfl⟩ ?_
  refine c_newa hX (atype := .int) (ft := .int) (ty := 0) (n := (n * 8)) (o := 19) (cells' := 10) (slots' := 6242) (G' := gS n ly 20 r0 9 3 [some 1, some 10, some 11, some 12, some 13, some 14, some 15, some 16, some 17, some 18, none, none, none, none, none]) 253 (by decide +kernel) rfl rfl (Or.inl ⟨rfl, rfl⟩) (by decide +kernel) rfl rfl rfl hc8 (by omega) rfl rfl (Nat.le_of_ble_eq_true rfl) (by show 3650 + (n * 8) ≤ 9158; omega) (Nat.le_refl _) (by omega) ?_
  refine c_putR hX hin (idx := 49) (ci := 3) (k := 10) (o := 9) (q := 19) (rs := [some 1, some 10, some 11, some 12, some 13, some 14, some 15, some 16, some 17, some 18, none, none, none, none, none]) (rs' := [some 1, some 10, some 11, some 12, some 13, some 14, some 15, some 16, some 17, some 18, some 19, none, none, none, none]) (G' := gS n ly 20 r0 9 3 [some 1, some 10, some 11, some 12, some 13, some 14, some 15, some 16, some 17, some 18, some 19, none, none, none, none]) (by decide +kernel) (by decide +kernel) rfl rfl rfl (fun _ => ⟨rfl, rfl⟩) rfl rfl rfl rfl ?_
  refine c_seg hX ok_X3_init (Nat.le_of_ble_eq_true rfl) (Nat.le_of_ble_eq_true rfl) 34 ⟨_, rfl, rfl, rfl, rfl, rfl⟩ ?_
  refine c_newa hX (atype := .int) (ft := .int) (ty := 0) (n := n) (o := 20) (cells' := 11) (slots' := 6566) (G' := gS n ly 21 r0 9 3 [some 1, some 10, some 11, some 12, some 13, some 14, some 15, some 16, some 17, some 18, some 19, none, none, none, none]) 253 (by decide +kernel) rfl rfl (Or.inl ⟨rfl, rfl⟩) (by decide +kernel) rfl rfl rfl hc (by omega) rfl rfl (Nat.le_of_ble_eq_true rfl) (by show 6242 + n ≤ 9158; omega) (Nat.le_refl _) (by omega) ?_
  refine c_putR hX hin (idx := 52) (ci := 3) (k := 11) (o := 9) (q := 20) (rs := [some 1, some 10, some 11, some 12, some 13, some 14, some 15, some 16, some 17, some 18, some 19, none, none, none, none]) (rs' := [some 1, some 10, some 11, some 12, some 13, some 14, some 15, some 16, some 17, some 18, some 19, some 20, none, none, none]) (G' := gS n ly 21 r0 9 3 [some 1, some 10, some 11, some 12, some 13, some 14, some 15, some 16, some 17, some 18, some 19, some 20, none, none, none]) (by decide +kernel) (by decide +kernel) rfl rfl rfl (fun _ => ⟨rfl, rfl⟩) rfl rfl rfl rfl ?_
  refine c_seg hX ok_X3_init (Nat.le_of_ble_eq_true rfl) (Nat.le_of_ble_eq_true rfl) 37 ⟨_, rfl, hi8, rfl, rfl, rfl, rfl⟩ ?_
  refine c_newa hX (atype := .int) (ft := .int) (ty := 0) (n := (n * 8)) (o := 21) (cells' := 12) (slots' := 9158) (G' := gS n ly 22 r0 9 3 [some 1, some 10, some 11, some 12, some 13, some 14, some 15, some 16, some 17, some 18, some 19, some 20, none, none, none]) 253 (by decide +kernel) rfl rfl (Or.inl ⟨rfl, rfl⟩) (by decide +kernel) rfl rfl rfl hc8 (by omega) rfl rfl (Nat.le_of_ble_eq_true rfl) (by show 6566 + (n * 8) ≤ 9158; omega) (Nat.le_refl _) (by omega) ?_
  refine c_putR hX hin (idx := 55) (ci := 3) (k := 12) (o := 9) (q := 21) (rs := [some 1, some 10, some 11, some 12, some 13, some 14, some 15, some 16, some 17, some 18, some 19, some 20, none, none, none]) (rs' := [some 1, some 10, some 11, some 12, some 13, some 14, some 15, some 16, some 17, some 18, some 19, some 20, some 21, none, none]) (G' := gS n ly 22 r0 9 3 [some 1, some 10, some 11, some 12, some 13, some 14, some 15, some 16, some 17, some 18, some 19, some 20, some 21, none, none]) (by decide +kernel) (by decide +kernel) rfl rfl rfl (fun _ => ⟨rfl, rfl⟩) rfl rfl rfl rfl ?_
  exact hend _ _ _ (by decide +kernel) rfl
set_option maxRecDepth 100000 in
theorem n_X6_init (B : Bs) (n ly : Nat) (hn : n ≤ 324) (r0 : List (Option Nat)) (m : Mem) (hc : m 1 4 = (n : Int)) : kNew B 1 M_X6_init.1 [vR 22, vR 1, vR 9] (gS n ly 23 r0 22 6 (k_nulls 6)) (gS n ly 30 r0 22 6 [some 1, some 9, some 24, some 25, some 26, some 27, some 28, some 29, some 23, none]) m 7 1947 (fun m' => m' = mzs m [23, 24, 25, 26, 27, 28, 29]) := by
  have hc8 : m 1 4 * 8 = ((n * 8 : Nat) : Int) := by rw [hc]; omega
  have hc5 : m 1 4 * 5 = ((n * 5 : Nat) : Int) := by rw [hc]; omega
  have hc1 : m 1 4 + 1 = ((n + 1 : Nat) : Int) := by rw [hc]; omega
  have hi8 : inR (m 1 4 * 8) := by rw [hc8]; constructor <;> omega
  have hi5 : inR (m 1 4 * 5) := by rw [hc5]; constructor <;> omega
  have hi1 : inR (m 1 4 + 1) := by rw [hc1]; constructor <;> omega
  refine c_start ok_X6_init rfl rfl rfl (Nat.le_of_ble_eq_true rfl) (fun p e s mm args below meth c Qf ad0 A hX hin hend => ?_)
  refine c_seg hX ok_X6_init (Nat.le_of_ble_eq_true rfl) (Nat.le_of_ble_eq_true rfl) 0 ⟨_, rfl, rfl, rfl, rfl, rfl⟩ ?_
  refine c_obj hX (idx := 3) (pos := 364) (by decide +kernel) (by decide +kernel) rfl rfl rfl ?_
  refine c_seg hX ok_X6_init (Nat.le_of_ble_eq_true rfl) (Nat.le_of_ble_eq_true rfl) 2 ⟨_, rfl, rfl, rfl, rfl, rfl⟩ ?_
  refine c_newa hX (atype := .int) (ft := .int) (ty := 0) (n := 3) (o := 23) (cells' := 1) (slots' := 3) (G' := gS n ly 24 r0 22 6 [none, none, none, none, none, none, none, none, none, none]) 253 (by decide +kernel) rfl rfl (Or.inl ⟨rfl, rfl⟩) (by decide +kernel) rfl rfl rfl rfl (by omega) rfl rfl (Nat.le_of_ble_eq_true rfl) (by show 0 + 3 ≤ 1947; omega) (Nat.le_refl _) (by omega) ?_
  refine c_putR hX hin (idx := 9) (ci := 6) (k := 8) (o := 22) (q := 23) (rs := [none, none, none, none, none, none, none, none, none, none]) (rs' := [none, none, none, none, none, none, none, none, some 23, none]) (G' := gS n ly 24 r0 22 6 [none, none, none, none, none, none, none, none, some 23, none]) (by decide +kernel) (by decide +kernel) rfl rfl rfl (fun _ => ⟨rfl, rfl⟩) rfl rfl rfl rfl ?_
  refine c_seg hX ok_X6_init (Nat.le_of_ble_eq_true rfl) (Nat.le_of_ble_eq_true rfl) 5 ⟨_, rfl, rfl, rfl, rfl, rfl⟩ ?_
  refine c_putR hX hin (idx := 15) (ci := 6) (k := 0) (o := 22) (q := 1) (rs := [none, none, none, none, none, none, none, none, some 23, none]) (rs' := [some 1, none, none, none, none, none, none, none, some 23, none]) (G' := gS n ly 24 r0 22 6 [some 1, none, none, none, none, none, none, none, some 23, none]) (by decide +kernel) (by decide +kernel) rfl rfl rfl (fun _ => ⟨rfl, rfl⟩) rfl rfl rfl rfl ?_
  refine c_seg hX ok_X6_init (Nat.le_of_ble_eq_true rfl) (Nat.le_of_ble_eq_true rfl) 7 ⟨_, rfl, rfl, rfl, rfl, rfl⟩ ?_
  refine c_putR hX hin (idx := 19) (ci := 6) (k := 1) (o := 22) (q := 9) (rs := [some 1, none, none, none, none, none, none, none, some 23, none]) (rs' := [some 1, some 9, none, none, none, none, none, none, some 23, none]) (G' := gS n ly 24 r0 22 6 [some 1, some 9, none, none, none, none, none, none, some 23, none]) (by decide +kernel) (by decide +kernel) rfl rfl rfl (fun _ => ⟨rfl, rfl⟩) rfl rfl rfl rfl ?_
  refine c_seg hX ok_X6_init (Nat.le_of_ble_eq_true rfl) (Nat.le_of_ble_eq_true rfl) 9 ⟨_, rfl, rfl, rfl, rfl, rfl⟩ ?_
  refine c_newa hX (atype := .int) (ft := .int) (ty := 0) (n := n) (o := 24) (cells' := 2) (slots' := 327) (G' := gS n ly 25 r0 22 6 [some 1, some 9, none, none, none, none, none, none, some 23, none]) 253 (by decide +kernel) rfl rfl (Or.inl ⟨rfl, rfl⟩) (by decide +kernel) rfl rfl rfl hc (by omega) rfl rfl (Nat.le_of_ble_eq_true rfl) (by show 3 + n ≤ 1947; omega) (Nat.le_refl _) (by omega) ?_
  refine c_putR hX hin (idx := 29) (ci := 6) (k := 2) (o := 22) (q := 24) (rs := [some 1, some 9, none, none, none, none, none, none, some 23, none]) (rs' := [some 1, some 9, some 24, none, none, none, none, none, some 23, none]) (G' := gS n ly 25 r0 22 6 [some 1, some 9, some 24, none, none, none, none, none, some 23, none]) (by decide +kernel) (by decide +kernel) rfl rfl rfl (fun _ => ⟨rfl, rfl⟩) rfl rfl rfl rfl ?_
  refine c_seg hX ok_X6_init (Nat.le_of_ble_eq_true rfl) (Nat.le_of_ble_eq_true rfl) 12 ⟨_, rfl, rfl, rfl, rfl, rfl⟩ ?_
  refine c_newa hX (atype := .int) (ft := .int) (ty := 0) (n := n) (o := 25) (cells' := 3) (slots' := 651) (G' := gS n ly 26 r0 22 6 [some 1, some 9, some 24, none, none, none, none, none, some 23, none]) 253 (by decide +kernel) rfl rfl (Or.inl ⟨rfl, rfl⟩) (by decide +kernel) rfl rfl rfl hc (by omega) rfl rfl (Nat.le_of_ble_eq_true rfl) (by show 327 + n ≤ 1947; omega) (Nat.le_refl _) (by omega) ?_
  refine c_putR hX hin (idx := 32) (ci := 6) (k := 3) (o := 22) (q := 25) (rs := [some 1, some 9, some 24, none, none, none, none, none, some 23, none]) (rs' := [some 1, some 9, some 24, some 25, none, none, none, none, some 23, none]) (G' := gS n ly 26 r0 22 6 [some 1, some 9, some 24, some 25, none, none, none, none, some 23, none]) (by decide +kernel) (by decide +kernel) rfl rfl rfl (fun _ => ⟨rfl, rfl⟩) rfl rfl rfl rfl ?_
  refine c_seg hX ok_X6_init (Nat.le_of_ble_eq_true rfl) (Nat.le_of_ble_eq_true rfl) 15 ⟨_, rfl, rfl, rfl, rfl, rfl⟩ ?_
  refine c_newa hX (atype := .int) (ft := .int) (ty := 0) (n := n) (o := 26) (cells' := 4) (slots' := 975) (G' := gS n ly 27 r0 22 6 [some 1, some 9, some 24, some 25, none, none, none, none, some 23, none]) 253 (by decide +kernel) rfl rfl (Or.inl ⟨rfl, rfl⟩) (by decide +kernel) rfl rfl rfl hc (by omega) rfl rfl (Nat.le_of_ble_eq_true rfl) (by show 651 + n ≤ 1947; omega) (Nat.le_refl _) (by omega) ?_
  refine c_putR hX hin (idx := 35) (ci := 6) (k := 4) (o := 22) (q := 26) (rs := [some 1, some 9, some 24, some 25, none, none, none, none, some 23, none]) (rs' := [some 1, some 9, some 24, some 25, some 26, none, none, none, some 23, none]) (G' := gS n ly 27 r0 22 6 [some 1, some 9, some 24, some 25, some 26, none, none, none, some 23, none]) (by decide +kernel) (by decide +kernel) rfl rfl rfl (fun _ => ⟨rfl, rfl⟩) rfl rfl rfl rfl ?_
  refine c_seg hX ok_X6_init (Nat.le_of_ble_eq_true rfl) (Nat.le_of_ble_eq_true rfl) 18 ⟨_, rfl, rfl, rfl, rfl, rfl⟩ ?_
  refine c_newa hX (atype := .int) (ft := .int) (ty := 0) (n := n) (o := 27) (cells' := 5) (slots' := 1299) (G' := gS n ly 28 r0 22 6 [some 1, some 9, some 24, some 25, some 26, none, none, none, some 23, none]) 253 (by decide +kernel) rfl rfl (Or.inl ⟨rfl, rfl⟩) (by decide +kernel) rfl rfl rfl hc (by omega) rfl rfl (Nat.le_of_ble_eq_true rfl) (by show 975 + n ≤ 1947; omega) (Nat.le_refl _) (by omega) ?_
  refine c_putR hX hin (idx := 38) (ci := 6) (k := 5) (o := 22) (q := 27) (rs := [some 1, some 9, some 24, some 25, some 26, none, none, none, some 23, none]) (rs' := [some 1, some 9, some 24, some 25, some 26, some 27, none, none, some 23, none]) (G' := gS n ly 28 r0 22 6 [some 1, some 9, some 24, some 25, some 26, some 27, none, none, some 23, none]) (by decide +kernel) (by decide +kernel) rfl rfl rfl (fun _ => ⟨rfl, rfl⟩) rfl rfl rfl rfl ?_
  refine c_seg hX ok_X6_init (Nat.le_of_ble_eq_true rfl) (Nat.le_of_ble_eq_true rfl) 21 ⟨_, rfl, rfl, rfl, rfl, rfl⟩ ?_
  refine c_newa hX (atype := .int) (ft := .int) (ty := 0) (n := n) (o := 28) (cells' := 6) (slots' := 1623) (G' := gS n ly 29 r0 22 6 [some 1, some 9, some 24, some 25, some 26, some 27, none, none, some 23, none]) 253 (by decide +kernel) rfl rfl (Or.inl ⟨rfl, rfl⟩) (by decide +kernel) rfl rfl rfl hc (by omega) rfl rfl (Nat.le_of_ble_eq_true rfl) (by show 1299 + n ≤ 1947; omega) (Nat.le_refl _) (by omega) ?_
  refine c_putR hX hin (idx := 41) (ci := 6) (k := 6) (o := 22) (q := 28) (rs := [some 1, some 9, some 24, some 25, some 26, some 27, none, none, some 23, none]) (rs' := [some 1, some 9, some 24, some 25, some 26, some 27, some 28, none, some 23, none]) (G' := gS n ly 29 r0 22 6 [some 1, some 9, some 24, some 25, some 26, some 27, some 28, none, some 23, none]) (by decide +kernel) (by decide +kernel) rfl rfl rfl (fun _ => ⟨rfl, rfl⟩) rfl rfl rfl rfl ?_
  refine c_seg hX ok_X6_init (Nat.le_of_ble_eq_true rfl) (Nat.le_of_ble_eq_true rfl) 24 ⟨_, rfl, rfl, rfl, rfl, rfl⟩ ?_
  refine c_newa hX (atype := .int) (ft := .int) (ty := 0) (n := n) (o := 29) (cells' := 7) (slots' := 1947) (G' := gS n ly 30 r0 22 6 [some 1, some 9, some 24, some 25, some 26, some 27, some 28, none, some 23, none]) 253 (by decide +kernel) rfl rfl (Or.inl ⟨rfl, rfl⟩) (by decide +kernel) rfl rfl rfl hc (by omega) rfl rfl (Nat.le_of_ble_eq_true rfl) (by show 1623 + n ≤ 1947; omega) (Nat.le_refl _) (by omega) ?_
  refine c_putR hX hin (idx := 44) (ci := 6) (k := 7) (o := 22) (q := 29) (rs := [some 1, some 9, some 24, some 25, some 26, some 27, some 28, none, some 23, none]) (rs' := [some 1, some 9, some 24, some 25, some 26, some 27, some 28, some 29, some 23, none]) (G' := gS n ly 30 r0 22 6 [some 1, some 9, some 24, some 25, some 26, some 27, some 28, some 29, some 23, none]) (by decide +kernel) (by decide +kernel) rfl rfl rfl (fun _ => ⟨rfl, rfl⟩) rfl rfl rfl rfl ?_
  exact hend _ _ _ (by decide +kernel) rfl
set_option maxRecDepth 100000 in
theorem n_X7_init (B : Bs) (n ly : Nat) (hn : n ≤ 324) (r0 : List (Option Nat)) (m : Mem) (hc : m 1 4 = (n : Int)) : kNew B 1 M_X7_init.1 [vR 30, vR 1, vR 9, vR 22] (gS n ly 31 r0 30 7 (k_nulls 7)) (gS n ly 37 r0 30 7 [some 1, some 9, some 22, some 31, some 32, some 33, some 34, some 35, some 36, none, none, none, none, none, none]) m 6 5832 (fun m' => m' = mzs m [31, 32, 33, 34, 35, 36]) := by
  have hc8 : m 1 4 * 8 = ((n * 8 : Nat) : Int) := by rw [hc]; omega
  have hc5 : m 1 4 * 5 = ((n * 5 : Nat) : Int) := by rw [hc]; omega
  have hc1 : m 1 4 + 1 = ((n + 1 : Nat) : Int) := by rw [hc]; omega
  have hi8 : inR (m 1 4 * 8) := by rw [hc8]; constructor <;> omega
  have hi5 : inR (m 1 4 * 5) := by rw [hc5]; constructor <;> omega
  have hi1 : inR (m 1 4 + 1) := by rw [hc1]; constructor <;> omega
  refine c_start ok_X7_init rfl rfl rfl (Nat.le_of_ble_eq_true rfl) (fun p e s mm args below meth c Qf ad0 A hX hin hend => ?_)
  refine c_seg hX ok_X7_init (Nat.le_of_ble_eq_true rfl) (Nat.le_of_ble_eq_true rfl) 0 ⟨_, rfl, rfl, rfl, rfl, rfl⟩ ?_
  refine c_obj hX (idx := 5) (pos := 413) (by decide +kernel) (by decide +kernel) rfl rfl rfl ?_
  refine c_seg hX ok_X7_init (Nat.le_of_ble_eq_true rfl) (Nat.le_of_ble_eq_true rfl) 2 ⟨_, rfl, rfl, rfl, rfl, rfl⟩ ?_
  refine c_putR hX hin (idx := 11) (ci := 7) (k := 0) (o := 30) (q := 1) (rs := [none, none, none, none, none, none, none, none, none, none, none, none, none, none, none]) (rs' := [some 1, none, none, none, none, none, none, none, none, none, none, none, none, none, none]) (G' := gS n ly 31 r0 30 7 [some 1, none, none, none, none, none, none, none, none, none, none, none, none, none, none]) (by decide +kernel) (by decide +kernel) rfl rfl rfl (fun _ => ⟨rfl, rfl⟩) rfl rfl rfl rfl ?_
  refine c_seg hX ok_X7_init (Nat.le_of_ble_eq_true rfl) (Nat.le_of_ble_eq_true rfl) 4 ⟨_, rfl, rfl, rfl, rfl, rfl⟩ ?_
  refine c_putR hX hin (idx := 17) (ci := 7) (k := 1) (o := 30) (q := 9) (rs := [some 1, none, none, none, none, none, none, none, none, none, none, none, none, none, none]) (rs' := [some 1, some 9, none, none, none, none, none, none, none, none, none, none, none, none, none]) (G' := gS n ly 31 r0 30 7 [some 1, some 9, none, none, none, none, none, none, none, none, none, none, none, none, none]) (by decide +kernel) (by decide +kernel) rfl rfl rfl (fun _ => ⟨rfl, rfl⟩) rfl rfl rfl rfl ?_
  refine c_seg hX ok_X7_init (Nat.le_of_ble_eq_true rfl) (Nat.le_of_ble_eq_true rfl) 6 ⟨_, rfl, rfl, rfl, rfl, rfl⟩ ?_
  refine c_putR hX hin (idx := 21) (ci := 7) (k := 2) (o := 30) (q := 22) (rs := [some 1, some 9, none, none, none, none, none, none, none, none, none, none, none, none, none]) (rs' := [some 1, some 9, some 22, none, none, none, none, none, none, none, none, none, none, none, none]) (G' := gS n ly 31 r0 30 7 [some 1, some 9, some 22, none, none, none, none, none, none, none, none, none, none, none, none]) (by decide +kernel) (by decide +kernel) rfl rfl rfl (fun _ => ⟨rfl, rfl⟩) rfl rfl rfl rfl ?_
  refine c_seg hX ok_X7_init (Nat.le_of_ble_eq_true rfl) (Nat.le_of_ble_eq_true rfl) 8 ⟨_, rfl, rfl, rfl, rfl, rfl⟩ ?_
  refine c_newa hX (atype := .int) (ft := .int) (ty := 0) (n := n) (o := 31) (cells' := 1) (slots' := 324) (G' := gS n ly 32 r0 30 7 [some 1, some 9, some 22, none, none, none, none, none, none, none, none, none, none, none, none]) 253 (by decide +kernel) rfl rfl (Or.inl ⟨rfl, rfl⟩) (by decide +kernel) rfl rfl rfl hc (by omega) rfl rfl (Nat.le_of_ble_eq_true rfl) (by show 0 + n ≤ 5832; omega) (Nat.le_refl _) (by omega) ?_
  refine c_putR hX hin (idx := 31) (ci := 7) (k := 3) (o := 30) (q := 31) (rs := [some 1, some 9, some 22, none, none, none, none, none, none, none, none, none, none, none, none]) (rs' := [some 1, some 9, some 22, some 31, none, none, none, none, none, none, none, none, none, none, none]) (G' := gS n ly 32 r0 30 7 [some 1, some 9, some 22, some 31, none, none, none, none, none, none, none, none, none, none, none]) (by decide +kernel) (by decide +kernel) rfl rfl rfl (fun _ => ⟨rfl, rfl⟩) rfl rfl rfl rfl ?_
  refine c_seg hX ok_X7_init (Nat.le_of_ble_eq_true rfl) (Nat.le_of_ble_eq_true rfl) 11 ⟨_, rfl, rfl, rfl, rfl, rfl⟩ ?_
  refine c_newa hX (atype := .int) (ft := .int) (ty := 0) (n := n) (o := 32) (cells' := 2) (slots' := 648) (G' := gS n ly 33 r0 30 7 [some 1, some 9, some 22, some 31, none, none, none, none, none, none, none, none, none, none, none]) 253 (by decide +kernel) rfl rfl (Or.inl ⟨rfl, rfl⟩) (by decide +kernel) rfl rfl rfl hc (by omega) rfl rfl (Nat.le_of_ble_eq_true rfl) (by show 324 + n ≤ 5832; omega) (Nat.le_refl _) (by omega) ?_
  refine c_putR hX hin (idx := 35) (ci := 7) (k := 4) (o := 30) (q := 32) (rs := [some 1, some 9, some 22, some 31, none, none, none, none, none, none, none, none, none, none, none]) (rs' := [some 1, some 9, some 22, some 31, some 32, none, none, none, none, none, none, none, none, none, none]) (G' := gS n ly 33 r0 30 7 [some 1, some 9, some 22, some 31, some 32, none, none, none, none, none, none, none, none, none, none]) (by decide +kernel) (by decide +kernel) rfl rfl rfl (fun _ => ⟨rfl, rfl⟩) rfl rfl rfl rfl ?_
  refine c_seg hX ok_X7_init (Nat.le_of_ble_eq_true rfl) (Nat.le_of_ble_eq_true rfl) 14 ⟨_, rfl, rfl, rfl, rfl, rfl⟩ ?_
  refine c_newa hX (atype := .int) (ft := .int) (ty := 0) (n := n) (o := 33) (cells' := 3) (slots' := 972) (G' := gS n ly 34 r0 30 7 [some 1, some 9, some 22, some 31, some 32, none, none, none, none, none, none, none, none, none, none]) 253 (by decide +kernel) rfl rfl (Or.inl ⟨rfl, rfl⟩) (by decide +kernel) rfl rfl rfl hc (by omega) rfl rfl (Nat.le_of_ble_eq_true rfl) (by show 648 + n ≤ 5832; omega) (Nat.le_refl _) (by omega) ?_
  refine c_putR hX hin (idx := 38) (ci := 7) (k := 5) (o := 30) (q := 33) (rs := [some 1, some 9, some 22, some 31, some 32, none, none, none, none, none, none, none, none, none, none]) (rs' := [some 1, some 9, some 22, some 31, some 32, some 33, none, none, none, none, none, none, none, none, none]) (G' := gS n ly 34 r0 30 7 [some 1, some 9, some 22, some 31, some 32, some 33, none, none, none, none, none, none, none, none, none]) (by decide +kernel) (by decide +kernel) rfl rfl rfl (fun _ => ⟨rfl, rfl⟩) rfl rfl rfl rfl ?_
  refine c_seg hX ok_X7_init (Nat.le_of_ble_eq_true rfl) (Nat.le_of_ble_eq_true rfl) 17 ⟨_, rfl, hi5, rfl, rfl, rfl, rfl⟩ ?_
  refine c_newa hX (atype := .int) (ft := .int) (ty := 0) (n := (n * 5)) (o := 34) (cells' := 4) (slots' := 2592) (G' := gS n ly 35 r0 30 7 [some 1, some 9, some 22, some 31, some 32, some 33, none, none, none, none, none, none, none, none, none]) 253 (by decide +kernel) rfl rfl (Or.inl ⟨rfl, rfl⟩) (by decide +kernel) rfl rfl rfl hc5 (by omega) rfl rfl (Nat.le_of_ble_eq_true rfl) (by show 972 + (n * 5) ≤ 5832; omega) (Nat.le_refl _) (by omega) ?_
  refine c_putR hX hin (idx := 41) (ci := 7) (k := 6) (o := 30) (q := 34) (rs := [some 1, some 9, some 22, some 31, some 32, some 33, none, none, none, none, none, none, none, none, none]) (rs' := [some 1, some 9, some 22, some 31, some 32, some 33, some 34, none, none, none, none, none, none, none, none]) (G' := gS n ly 35 r0 30 7 [some 1, some 9, some 22, some 31, some 32, some 33, some 34, none, none, none, none, none, none, none, none]) (by decide +kernel) (by decide +kernel) rfl rfl rfl (fun _ => ⟨rfl, rfl⟩) rfl rfl rfl rfl ?_
  refine c_seg hX ok_X7_init (Nat.le_of_ble_eq_true rfl) (Nat.le_of_ble_eq_true rfl) 20 ⟨_, rfl, hi5, rfl, rfl, rfl, rfl⟩ ?_
  refine c_newa hX (atype := .int) (ft := .int) (ty := 0) (n := (n * 5)) (o := 35) (cells' := 5) (slots' := 4212) (G' := gS n ly 36 r0 30 7 [some 1, some 9, some 22, some 31, some 32, some 33, some 34, none, none, none, none, none, none, none, none]) 253 (by decide +kernel) rfl rfl (Or.inl ⟨rfl, rfl⟩) (by decide +kernel) rfl rfl rfl hc5 (by omega) rfl rfl (Nat.le_of_ble_eq_true rfl) (by show 2592 + (n * 5) ≤ 5832; omega) (Nat.le_refl _) (by omega) ?_
  refine c_putR hX hin (idx := 44) (ci := 7) (k := 7) (o := 30) (q := 35) (rs := [some 1, some 9, some 22, some 31, some 32, some 33, some 34, none, none, none, none, none, none, none, none]) (rs' := [some 1, some 9, some 22, some 31, some 32, some 33, some 34, some 35, none, none, none, none, none, none, none]) (G' := gS n ly 36 r0 30 7 [some 1, some 9, some 22, some 31, some 32, some 33, some 34, some 35, none, none, none, none, none, none, none]) (by decide +kernel) (by decide +kernel) rfl rfl rfl (fun _ => ⟨rfl, rfl⟩) rfl rfl rfl rfl ?_
  refine c_seg hX ok_X7_init (Nat.le_of_ble_eq_true rfl) (Nat.le_of_ble_eq_true rfl) 23 ⟨_, rfl, hi5, rfl, rfl, rfl, rfl⟩ ?_
  refine c_newa hX (atype := .int) (ft := .int) (ty := 0) (n := (n * 5)) (o := 36) (cells' := 6) (slots' := 5832) (G' := gS n ly 37 r0 30 7 [some 1, some 9, some 22, some 31, some 32, some 33, some 34, some 35, none, none, none, none, none, none, none]) 253 (by decide +kernel) rfl rfl (Or.inl ⟨rfl, rfl⟩) (by decide +kernel) rfl rfl rfl hc5 (by omega) rfl rfl (Nat.le_of_ble_eq_true rfl) (by show 4212 + (n * 5) ≤ 5832; omega) (Nat.le_refl _) (by omega) ?_
  refine c_putR hX hin (idx := 47) (ci := 7) (k := 8) (o := 30) (q := 36) (rs := [some 1, some 9, some 22, some 31, some 32, some 33, some 34, some 35, none, none, none, none, none, none, none]) (rs' := [some 1, some 9, some 22, some 31, some 32, some 33, some 34, some 35, some 36, none, none, none, none, none, none]) (G' := gS n ly 37 r0 30 7 [some 1, some 9, some 22, some 31, some 32, some 33, some 34, some 35, some 36, none, none, none, none, none, none]) (by decide +kernel) (by decide +kernel) rfl rfl rfl (fun _ => ⟨rfl, rfl⟩) rfl rfl rfl rfl ?_
  exact hend _ _ _ (by decide +kernel) rfl
set_option maxRecDepth 100000 in
theorem n_X5_init (B : Bs) (n ly : Nat) (hn : n ≤ 324) (r0 : List (Option Nat)) (m : Mem) (hc : m 1 4 = (n : Int)) : kNew B 1 M_X5_init.1 [vR 37, vR 1, vR 9, vR 22, vR 30] (gS n ly 38 r0 37 5 (k_nulls 5)) (gS n ly 40 r0 37 5 [some 1, some 9, some 22, some 30, some 38, some 39]) m 2 648 (fun m' => m' = mzs m [38, 39]) := by
  have hc8 : m 1 4 * 8 = ((n * 8 : Nat) : Int) := by rw [hc]; omega
  have hc5 : m 1 4 * 5 = ((n * 5 : Nat) : Int) := by rw [hc]; omega
  have hc1 : m 1 4 + 1 = ((n + 1 : Nat) : Int) := by rw [hc]; omega
  have hi8 : inR (m 1 4 * 8) := by rw [hc8]; constructor <;> omega
  have hi5 : inR (m 1 4 * 5) := by rw [hc5]; constructor <;> omega
  have hi1 : inR (m 1 4 + 1) := by rw [hc1]; constructor <;> omega
  refine c_start ok_X5_init rfl rfl rfl (Nat.le_of_ble_eq_true rfl) (fun p e s mm args below meth c Qf ad0 A hX hin hend => ?_)
  refine c_seg hX ok_X5_init (Nat.le_of_ble_eq_true rfl) (Nat.le_of_ble_eq_true rfl) 0 ⟨_, rfl, rfl, rfl, rfl, rfl⟩ ?_
  refine c_obj hX (idx := 3) (pos := 466) (by decide +kernel) (by decide +kernel) rfl rfl rfl ?_
  refine c_seg hX ok_X5_init (Nat.le_of_ble_eq_true rfl) (Nat.le_of_ble_eq_true rfl) 2 ⟨_, rfl, rfl, rfl, rfl, rfl⟩ ?_
  refine c_putR hX hin (idx := 9) (ci := 5) (k := 0) (o := 37) (q := 1) (rs := [none, none, none, none, none, none]) (rs' := [some 1, none, none, none, none, none]) (G' := gS n ly 38 r0 37 5 [some 1, none, none, none, none, none]) (by decide +kernel) (by decide +kernel) rfl rfl rfl (fun _ => ⟨rfl, rfl⟩) rfl rfl rfl rfl ?_
  refine c_seg hX ok_X5_init (Nat.le_of_ble_eq_true rfl) (Nat.le_of_ble_eq_true rfl) 4 ⟨_, rfl, rfl, rfl, rfl, rfl⟩ ?_
  refine c_putR hX hin (idx := 15) (ci := 5) (k := 1) (o := 37) (q := 9) (rs := [some 1, none, none, none, none, none]) (rs' := [some 1, some 9, none, none, none, none]) (G' := gS n ly 38 r0 37 5 [some 1, some 9, none, none, none, none]) (by decide +kernel) (by decide +kernel) rfl rfl rfl (fun _ => ⟨rfl, rfl⟩) rfl rfl rfl rfl ?_
  refine c_seg hX ok_X5_init (Nat.le_of_ble_eq_true rfl) (Nat.le_of_ble_eq_true rfl) 6 ⟨_, rfl, rfl, rfl, rfl, rfl⟩ ?_
  refine c_putR hX hin (idx := 19) (ci := 5) (k := 2) (o := 37) (q := 22) (rs := [some 1, some 9, none, none, none, none]) (rs' := [some 1, some 9, some 22, none, none, none]) (G' := gS n ly 38 r0 37 5 [some 1, some 9, some 22, none, none, none]) (by decide +kernel) (by decide +kernel) rfl rfl rfl (fun _ => ⟨rfl, rfl⟩) rfl rfl rfl rfl ?_
  refine c_seg hX ok_X5_init (Nat.le_of_ble_eq_true rfl) (Nat.le_of_ble_eq_true rfl) 8 ⟨_, rfl, rfl, rfl, rfl, rfl⟩ ?_
  refine c_putR hX hin (idx := 23) (ci := 5) (k := 3) (o := 37) (q := 30) (rs := [some 1, some 9, some 22, none, none, none]) (rs' := [some 1, some 9, some 22, some 30, none, none]) (G' := gS n ly 38 r0 37 5 [some 1, some 9, some 22, some 30, none, none]) (by decide +kernel) (by decide +kernel) rfl rfl rfl (fun _ => ⟨rfl, rfl⟩) rfl rfl rfl rfl ?_
  refine c_seg hX ok_X5_init (Nat.le_of_ble_eq_true rfl) (Nat.le_of_ble_eq_true rfl) 10 ⟨_, rfl, rfl, rfl, rfl, rfl⟩ ?_
  refine c_newa hX (atype := .int) (ft := .int) (ty := 0) (n := n) (o := 38) (cells' := 1) (slots' := 324) (G' := gS n ly 39 r0 37 5 [some 1, some 9, some 22, some 30, none, none]) 253 (by decide +kernel) rfl rfl (Or.inl ⟨rfl, rfl⟩) (by decide +kernel) rfl rfl rfl hc (by omega) rfl rfl (Nat.le_of_ble_eq_true rfl) (by show 0 + n ≤ 648; omega) (Nat.le_refl _) (by omega) ?_
  refine c_putR hX hin (idx := 33) (ci := 5) (k := 4) (o := 37) (q := 38) (rs := [some 1, some 9, some 22, some 30, none, none]) (rs' := [some 1, some 9, some 22, some 30, some 38, none]) (G' := gS n ly 39 r0 37 5 [some 1, some 9, some 22, some 30, some 38, none]) (by decide +kernel) (by decide +kernel) rfl rfl rfl (fun _ => ⟨rfl, rfl⟩) rfl rfl rfl rfl ?_
  refine c_seg hX ok_X5_init (Nat.le_of_ble_eq_true rfl) (Nat.le_of_ble_eq_true rfl) 13 ⟨_, rfl, rfl, rfl, rfl, rfl⟩ ?_
  refine c_newa hX (atype := .int) (ft := .int) (ty := 0) (n := n) (o := 39) (cells' := 2) (slots' := 648) (G' := gS n ly 40 r0 37 5 [some 1, some 9, some 22, some 30, some 38, none]) 253 (by decide +kernel) rfl rfl (Or.inl ⟨rfl, rfl⟩) (by decide +kernel) rfl rfl rfl hc (by omega) rfl rfl (Nat.le_of_ble_eq_true rfl) (by show 324 + n ≤ 648; omega) (Nat.le_refl _) (by omega) ?_
  refine c_putR hX hin (idx := 37) (ci := 5) (k := 5) (o := 37) (q := 39) (rs := [some 1, some 9, some 22, some 30, some 38, none]) (rs' := [some 1, some 9, some 22, some 30, some 38, some 39]) (G' := gS n ly 40 r0 37 5 [some 1, some 9, some 22, some 30, some 38, some 39]) (by decide +kernel) (by decide +kernel) rfl rfl rfl (fun _ => ⟨rfl, rfl⟩) rfl rfl rfl rfl ?_
  exact hend _ _ _ (by decide +kernel) rfl
set_option maxRecDepth 100000 in
theorem n_X1_init (B : Bs) (n ly : Nat) (hn : n ≤ 324) (r0 : List (Option Nat)) (m : Mem) (hc : m 1 4 = (n : Int)) : kNew B 1 M_X1_init.1 [vR 40, vR 1, vR 9, vR 22, vR 30] (gS n ly 41 r0 40 1 (k_nulls 1)) (gS n ly 41 r0 40 1 [some 1, some 9, some 22, some 30]) m 0 0 (fun m' => m' = m) := by
  have hc8 : m 1 4 * 8 = ((n * 8 : Nat) : Int) := by rw [hc]; omega
  have hc5 : m 1 4 * 5 = ((n * 5 : Nat) : Int) := by rw [hc]; omega
  have hc1 : m 1 4 + 1 = ((n + 1 : Nat) : Int) := by rw [hc]; omega
  have hi8 : inR (m 1 4 * 8) := by rw [hc8]; constructor <;> omega
  have hi5 : inR (m 1 4 * 5) := by rw [hc5]; constructor <;> omega
  have hi1 : inR (m 1 4 + 1) := by rw [hc1]; constructor <;> omega
  refine c_start ok_X1_init rfl rfl rfl (Nat.le_of_ble_eq_true rfl) (fun p e s mm args below meth c Qf ad0 A hX hin hend => ?_)
  refine c_seg hX ok_X1_init (Nat.le_of_ble_eq_true rfl) (Nat.le_of_ble_eq_true rfl) 0 ⟨_, rfl, rfl, rfl, rfl, rfl⟩ ?_
  refine c_obj hX (idx := 3) (pos := 491) (by decide +kernel) (by decide +kernel) rfl rfl rfl ?_
  refine c_seg hX ok_X1_init (Nat.le_of_ble_eq_true rfl) (Nat.le_of_ble_eq_true rfl) 2 ⟨_, rfl, rfl, rfl, rfl, rfl⟩ ?_
  refine c_putR hX hin (idx := 9) (ci := 1) (k := 0) (o := 40) (q := 1) (rs := [none, none, none, none]) (rs' := [some 1, none, none, none]) (G' := gS n ly 41 r0 40 1 [some 1, none, none, none]) (by decide +kernel) (by decide +kernel) rfl rfl rfl (fun _ => ⟨rfl, rfl⟩) rfl rfl rfl rfl ?_
  refine c_seg hX ok_X1_init (Nat.le_of_ble_eq_true rfl) (Nat.le_of_ble_eq_true rfl) 4 ⟨_, rfl, rfl, rfl, rfl, rfl⟩ ?_
  refine c_putR hX hin (idx := 15) (ci := 1) (k := 1) (o := 40) (q := 9) (rs := [some 1, none, none, none]) (rs' := [some 1, some 9, none, none]) (G' := gS n ly 41 r0 40 1 [some 1, some 9, none, none]) (by decide +kernel) (by decide +kernel) rfl rfl rfl (fun _ => ⟨rfl, rfl⟩) rfl rfl rfl rfl ?_
  refine c_seg hX ok_X1_init (Nat.le_of_ble_eq_true rfl) (Nat.le_of_ble_eq_true rfl) 6 ⟨_, rfl, rfl, rfl, rfl, rfl⟩ ?_
  refine c_putR hX hin (idx := 19) (ci := 1) (k := 2) (o := 40) (q := 22) (rs := [some 1, some 9, none, none]) (rs' := [some 1, some 9, some 22, none]) (G' := gS n ly 41 r0 40 1 [some 1, some 9, some 22, none]) (by decide +kernel) (by decide +kernel) rfl rfl rfl (fun _ => ⟨rfl, rfl⟩) rfl rfl rfl rfl ?_
  refine c_seg hX ok_X1_init (Nat.le_of_ble_eq_true rfl) (Nat.le_of_ble_eq_true rfl) 8 ⟨_, rfl, rfl, rfl, rfl, rfl⟩ ?_
  refine c_putR hX hin (idx := 23) (ci := 1) (k := 3) (o := 40) (q := 30) (rs := [some 1, some 9, some 22, none]) (rs' := [some 1, some 9, some 22, some 30]) (G' := gS n ly 41 r0 40 1 [some 1, some 9, some 22, some 30]) (by decide +kernel) (by decide +kernel) rfl rfl rfl (fun _ => ⟨rfl, rfl⟩) rfl rfl rfl rfl ?_
  exact hend _ _ _ (by decide +kernel) rfl
set_option maxRecDepth 100000 in
theorem n_X4_init (B : Bs) (n ly : Nat) (hn : n ≤ 324) (r0 : List (Option Nat)) (m : Mem) (hc : m 1 4 = (n : Int)) : kNew B 1 M_X4_init.1 [vR 45, vR 1, vR 9, vR 22] (gS n ly 46 r0 45 4 (k_nulls 4)) (gS n ly 46 r0 45 4 [some 1, some 9, some 22, none, none]) m 0 0 (fun m' => m' = m) := by
  have hc8 : m 1 4 * 8 = ((n * 8 : Nat) : Int) := by rw [hc]; omega
  have hc5 : m 1 4 * 5 = ((n * 5 : Nat) : Int) := by rw [hc]; omega
  have hc1 : m 1 4 + 1 = ((n + 1 : Nat) : Int) := by rw [hc]; omega
  have hi8 : inR (m 1 4 * 8) := by rw [hc8]; constructor <;> omega
  have hi5 : inR (m 1 4 * 5) := by rw [hc5]; constructor <;> omega
  have hi1 : inR (m 1 4 + 1) := by rw [hc1]; constructor <;> omega
  refine c_start ok_X4_init rfl rfl rfl (Nat.le_of_ble_eq_true rfl) (fun p e s mm args below meth c Qf ad0 A hX hin hend => ?_)
  refine c_seg hX ok_X4_init (Nat.le_of_ble_eq_true rfl) (Nat.le_of_ble_eq_true rfl) 0 ⟨_, rfl, rfl, rfl, rfl, rfl⟩ ?_
  refine c_obj hX (idx := 3) (pos := 550) (by decide +kernel) (by decide +kernel) rfl rfl rfl ?_
  refine c_seg hX ok_X4_init (Nat.le_of_ble_eq_true rfl) (Nat.le_of_ble_eq_true rfl) 2 ⟨_, rfl, rfl, rfl, rfl, rfl⟩ ?_
  refine c_putR hX hin (idx := 9) (ci := 4) (k := 0) (o := 45) (q := 1) (rs := [none, none, none, none, none]) (rs' := [some 1, none, none, none, none]) (G' := gS n ly 46 r0 45 4 [some 1, none, none, none, none]) (by decide +kernel) (by decide +kernel) rfl rfl rfl (fun _ => ⟨rfl, rfl⟩) rfl rfl rfl rfl ?_
  refine c_seg hX ok_X4_init (Nat.le_of_ble_eq_true rfl) (Nat.le_of_ble_eq_true rfl) 4 ⟨_, rfl, rfl, rfl, rfl, rfl⟩ ?_
  refine c_putR hX hin (idx := 15) (ci := 4) (k := 1) (o := 45) (q := 9) (rs := [some 1, none, none, none, none]) (rs' := [some 1, some 9, none, none, none]) (G' := gS n ly 46 r0 45 4 [some 1, some 9, none, none, none]) (by decide +kernel) (by decide +kernel) rfl rfl rfl (fun _ => ⟨rfl, rfl⟩) rfl rfl rfl rfl ?_
  refine c_seg hX ok_X4_init (Nat.le_of_ble_eq_true rfl) (Nat.le_of_ble_eq_true rfl) 6 ⟨_, rfl, rfl, rfl, rfl, rfl⟩ ?_
  refine c_putR hX hin (idx := 19) (ci := 4) (k := 2) (o := 45) (q := 22) (rs := [some 1, some 9, none, none, none]) (rs' := [some 1, some 9, some 22, none, none]) (G' := gS n ly 46 r0 45 4 [some 1, some 9, some 22, none, none]) (by decide +kernel) (by decide +kernel) rfl rfl rfl (fun _ => ⟨rfl, rfl⟩) rfl rfl rfl rfl ?_
  exact hend _ _ _ (by decide +kernel) rfl
set_option maxRecDepth 100000 in
theorem n_X9_init (B : Bs) (n ly : Nat) (hn : n ≤ 324) (r0 : List (Option Nat)) (m : Mem) (hc : m 1 4 = (n : Int)) : kNew B 1 M_X9_init.1 [vR 51, vR 1, vR 9, vR 22] (gS n ly 52 r0 51 9 (k_nulls 9)) (gS n ly 54 r0 51 9 [some 1, some 9, some 22, some 52, some 53, none]) m 2 650 (fun m' => m' = mzs m [52, 53]) := by
  have hc8 : m 1 4 * 8 = ((n * 8 : Nat) : Int) := by rw [hc]; omega
  have hc5 : m 1 4 * 5 = ((n * 5 : Nat) : Int) := by rw [hc]; omega
  have hc1 : m 1 4 + 1 = ((n + 1 : Nat) : Int) := by rw [hc]; omega
  have hi8 : inR (m 1 4 * 8) := by rw [hc8]; constructor <;> omega
  have hi5 : inR (m 1 4 * 5) := by rw [hc5]; constructor <;> omega
  have hi1 : inR (m 1 4 + 1) := by rw [hc1]; constructor <;> omega
  refine c_start ok_X9_init rfl rfl rfl (Nat.le_of_ble_eq_true rfl) (fun p e s mm args below meth c Qf ad0 A hX hin hend => ?_)
  refine c_seg hX ok_X9_init (Nat.le_of_ble_eq_true rfl) (Nat.le_of_ble_eq_true rfl) 0 ⟨_, rfl, rfl, rfl, rfl, rfl⟩ ?_
  refine c_obj hX (idx := 3) (pos := 612) (by decide +kernel) (by decide +kernel) rfl rfl rfl ?_
  refine c_seg hX ok_X9_init (Nat.le_of_ble_eq_true rfl) (Nat.le_of_ble_eq_true rfl) 2 ⟨_, rfl, rfl, rfl, rfl, rfl⟩ ?_
  refine c_putR hX hin (idx := 9) (ci := 9) (k := 0) (o := 51) (q := 1) (rs := [none, none, none, none, none, none]) (rs' := [some 1, none, none, none, none, none]) (G' := gS n ly 52 r0 51 9 [some 1, none, none, none, none, none]) (by decide +kernel) (by decide +kernel) rfl rfl rfl (fun _ => ⟨rfl, rfl⟩) rfl rfl rfl rfl ?_
  refine c_seg hX ok_X9_init (Nat.le_of_ble_eq_true rfl) (Nat.le_of_ble_eq_true rfl) 4 ⟨_, rfl, rfl, rfl, rfl, rfl⟩ ?_
  refine c_putR hX hin (idx := 15) (ci := 9) (k := 1) (o := 51) (q := 9) (rs := [some 1, none, none, none, none, none]) (rs' := [some 1, some 9, none, none, none, none]) (G' := gS n ly 52 r0 51 9 [some 1, some 9, none, none, none, none]) (by decide +kernel) (by decide +kernel) rfl rfl rfl (fun _ => ⟨rfl, rfl⟩) rfl rfl rfl rfl ?_
  refine c_seg hX ok_X9_init (Nat.le_of_ble_eq_true rfl) (Nat.le_of_ble_eq_true rfl) 6 ⟨_, rfl, rfl, rfl, rfl, rfl⟩ ?_
  refine c_putR hX hin (idx := 19) (ci := 9) (k := 2) (o := 51) (q := 22) (rs := [some 1, some 9, none, none, none, none]) (rs' := [some 1, some 9, some 22, none, none, none]) (G' := gS n ly 52 r0 51 9 [some 1, some 9, some 22, none, none, none]) (by decide +kernel) (by decide +kernel) rfl rfl rfl (fun _ => ⟨rfl, rfl⟩) rfl rfl rfl rfl ?_
  refine c_seg hX ok_X9_init (Nat.le_of_ble_eq_true rfl) (Nat.le_of_ble_eq_true rfl) 8 ⟨_, rfl, hi1, rfl, rfl, rfl, rfl⟩ ?_
  refine c_newa hX (atype := .int) (ft := .int) (ty := 0) (n := (n + 1)) (o := 52) (cells' := 1) (slots' := 325) (G' := gS n ly 53 r0 51 9 [some 1, some 9, some 22, none, none, none]) 253 (by decide +kernel) rfl rfl (Or.inl ⟨rfl, rfl⟩) (by decide +kernel) rfl rfl rfl hc1 (by omega) rfl rfl (Nat.le_of_ble_eq_true rfl) (by show 0 + (n + 1) ≤ 650; omega) (Nat.le_refl _) (by omega) ?_
  refine c_putR hX hin (idx := 29) (ci := 9) (k := 3) (o := 51) (q := 52) (rs := [some 1, some 9, some 22, none, none, none]) (rs' := [some 1, some 9, some 22, some 52, none, none]) (G' := gS n ly 53 r0 51 9 [some 1, some 9, some 22, some 52, none, none]) (by decide +kernel) (by decide +kernel) rfl rfl rfl (fun _ => ⟨rfl, rfl⟩) rfl rfl rfl rfl ?_
  refine c_seg hX ok_X9_init (Nat.le_of_ble_eq_true rfl) (Nat.le_of_ble_eq_true rfl) 11 ⟨_, rfl, hi1, rfl, rfl, rfl, rfl⟩ ?_
  refine c_newa hX (atype := .int) (ft := .int) (ty := 0) (n := (n + 1)) (o := 53) (cells' := 2) (slots' := 650) (G' := gS n ly 54 r0 51 9 [some 1, some 9, some 22, some 52, none, none]) 253 (by decide +kernel) rfl rfl (Or.inl ⟨rfl, rfl⟩) (by decide +kernel) rfl rfl rfl hc1 (by omega) rfl rfl (Nat.le_of_ble_eq_true rfl) (by show 325 + (n + 1) ≤ 650; omega) (Nat.le_refl _) (by omega) ?_
  refine c_putR hX hin (idx := 32) (ci := 9) (k := 4) (o := 51) (q := 53) (rs := [some 1, some 9, some 22, some 52, none, none]) (rs' := [some 1, some 9, some 22, some 52, some 53, none]) (G' := gS n ly 54 r0 51 9 [some 1, some 9, some 22, some 52, some 53, none]) (by decide +kernel) (by decide +kernel) rfl rfl rfl (fun _ => ⟨rfl, rfl⟩) rfl rfl rfl rfl ?_
  exact hend _ _ _ (by decide +kernel) rfl
end
section
/-! the constructors of Tape, Checks and Trial -/
set_option maxRecDepth 100000 in
theorem n_X8_init (B : Bs) (n ly : Nat) (r0 : List (Option Nat)) (m : Mem) (v : Int) : kNew B 1 M_X8_init.1 [vR 6, vI v] (gS n ly 7 r0 6 8 (k_nulls 8)) (gS n ly 9 r0 6 8 [none, some 7, some 8, none, none, none]) m 2 85 (fun m' => m' = fset (mzs m [7, 8]) 6 0 v) := by
  refine c_start ok_X8_init rfl rfl rfl (Nat.le_of_ble_eq_true rfl) (fun p e s mm args below meth c Qf ad0 A hX hin hend => ?_)
  refine c_seg hX ok_X8_init (Nat.le_of_ble_eq_true rfl) (Nat.le_of_ble_eq_true rfl) 0 ⟨_, rfl, rfl, rfl, rfl, rfl⟩ ?_
  refine c_obj hX (idx := 3) (pos := 259) (by decide +kernel) (by decide +kernel) rfl rfl rfl ?_
  refine c_seg hX ok_X8_init (Nat.le_of_ble_eq_true rfl) (Nat.le_of_ble_eq_true rfl) 2 ⟨_, rfl, rfl, rfl, rfl, rfl⟩ ?_
  refine c_newa hX (atype := .int) (ft := .int) (ty := 0) (n := 80) (o := 7) (cells' := 1) (slots' := 80) (G' := gS n ly 8 r0 6 8 [none, none, none, none, none, none]) 253 (by decide +kernel) rfl rfl (Or.inl ⟨rfl, rfl⟩) (by decide +kernel) rfl rfl rfl rfl (by omega) rfl rfl (Nat.le_of_ble_eq_true rfl) (by show 0 + 80 ≤ 85; omega) (Nat.le_refl _) (by omega) ?_
  refine c_putR hX hin (idx := 9) (ci := 8) (k := 1) (o := 6) (q := 7) (rs := [none, none, none, none, none, none]) (rs' := [none, some 7, none, none, none, none]) (G' := gS n ly 8 r0 6 8 [none, some 7, none, none, none, none]) (by decide +kernel) (by decide +kernel) rfl rfl rfl (fun _ => ⟨rfl, rfl⟩) rfl rfl rfl rfl ?_
  refine c_seg hX ok_X8_init (Nat.le_of_ble_eq_true rfl) (Nat.le_of_ble_eq_true rfl) 5 ⟨_, rfl, rfl, rfl, rfl, rfl⟩ ?_
  refine c_newa hX (atype := .int) (ft := .int) (ty := 0) (n := 5) (o := 8) (cells' := 2) (slots' := 85) (G' := gS n ly 9 r0 6 8 [none, some 7, none, none, none, none]) 253 (by decide +kernel) rfl rfl (Or.inl ⟨rfl, rfl⟩) (by decide +kernel) rfl rfl rfl rfl (by omega) rfl rfl (Nat.le_of_ble_eq_true rfl) (by show 80 + 5 ≤ 85; omega) (Nat.le_refl _) (by omega) ?_
  refine c_putR hX hin (idx := 15) (ci := 8) (k := 2) (o := 6) (q := 8) (rs := [none, some 7, none, none, none, none]) (rs' := [none, some 7, some 8, none, none, none]) (G' := gS n ly 9 r0 6 8 [none, some 7, some 8, none, none, none]) (by decide +kernel) (by decide +kernel) rfl rfl rfl (fun _ => ⟨rfl, rfl⟩) rfl rfl rfl rfl ?_
  refine c_seg hX ok_X8_init (Nat.le_of_ble_eq_true rfl) (Nat.le_of_ble_eq_true rfl) 8 ⟨_, rfl, rfl, rfl, rfl, rfl⟩ ?_
  refine c_putI hX hin (idx := 18) (ci := 8) (k := 0) (o := 6) (rs := [none, some 7, some 8, none, none, none]) (by decide +kernel) (by decide +kernel) rfl rfl rfl ?_
  exact hend _ _ _ (by decide +kernel) rfl
set_option maxRecDepth 100000 in
theorem n_X0_init (B : Bs) (n ly : Nat) (hn : n ≤ 324) (hly : ly ≤ 4) (r0 : List (Option Nat)) (m : Mem) (hc : m 1 4 = (n : Int)) (hl : m 1 2 = (ly : Int)) : kNew B 2 M_X0_init.1 [vR 46, vR 1, vR 9] (gS n ly 47 r0 46 0 (k_nulls 0)) (gS n ly 51 r0 46 0 [some 1, some 9, some 47, none, none, some 48, some 49, some 50, none]) m 4 977 (fun m' => m' = mzs (mset (mfill (mz m 47) 47 0 ((ly + 1 : Nat) : Int) 1) 47 0 0) [48, 49, 50]) := by
  have hl1 : m 1 2 + 1 = ((ly + 1 : Nat) : Int) := by rw [hl]; omega
  have hl1i : inR (m 1 2 + 1) := by rw [hl1]; constructor <;> omega
  refine c_start ok_X0_init rfl rfl rfl (Nat.le_of_ble_eq_true rfl) (fun p e s mm args below meth c Qf ad0 A hX hin hend => ?_)
  refine c_seg hX ok_X0_init (Nat.le_of_ble_eq_true rfl) (Nat.le_of_ble_eq_true rfl) 0 ⟨_, rfl, rfl, rfl, rfl, rfl⟩ ?_
  refine c_obj hX (idx := 3) (pos := 572) (by decide +kernel) (by decide +kernel) rfl rfl rfl ?_
  refine c_seg hX ok_X0_init (Nat.le_of_ble_eq_true rfl) (Nat.le_of_ble_eq_true rfl) 2 ⟨_, rfl, rfl, rfl, rfl, rfl⟩ ?_
  refine c_putR hX hin (idx := 9) (ci := 0) (k := 0) (o := 46) (q := 1) (rs := [none, none, none, none, none, none, none, none, none]) (rs' := [some 1, none, none, none, none, none, none, none, none]) (G' := gS n ly 47 r0 46 0 [some 1, none, none, none, none, none, none, none, none]) (by decide +kernel) (by decide +kernel) rfl rfl rfl (fun _ => ⟨rfl, rfl⟩) rfl rfl rfl rfl ?_
  refine c_seg hX ok_X0_init (Nat.le_of_ble_eq_true rfl) (Nat.le_of_ble_eq_true rfl) 4 ⟨_, rfl, rfl, rfl, rfl, rfl⟩ ?_
  refine c_putR hX hin (idx := 15) (ci := 0) (k := 1) (o := 46) (q := 9) (rs := [some 1, none, none, none, none, none, none, none, none]) (rs' := [some 1, some 9, none, none, none, none, none, none, none]) (G' := gS n ly 47 r0 46 0 [some 1, some 9, none, none, none, none, none, none, none]) (by decide +kernel) (by decide +kernel) rfl rfl rfl (fun _ => ⟨rfl, rfl⟩) rfl rfl rfl rfl ?_
  refine c_seg hX ok_X0_init (Nat.le_of_ble_eq_true rfl) (Nat.le_of_ble_eq_true rfl) 6 ⟨_, rfl, hl1i, rfl, rfl, rfl, rfl⟩ ?_
  refine c_newa hX (atype := .int) (ft := .int) (ty := 0) (n := (ly + 1)) (o := 47) (cells' := 1) (slots' := 5) (G' := gS n ly 48 r0 46 0 [some 1, some 9, none, none, none, none, none, none, none]) 253 (by decide +kernel) rfl rfl (Or.inl ⟨rfl, rfl⟩) (by decide +kernel) rfl rfl rfl hl1 (by omega) rfl rfl (Nat.le_of_ble_eq_true rfl) (by show 0 + (ly + 1) ≤ 977; omega) (Nat.le_refl _) (by omega) ?_
  refine c_putR hX hin (idx := 25) (ci := 0) (k := 2) (o := 46) (q := 47) (rs := [some 1, some 9, none, none, none, none, none, none, none]) (rs' := [some 1, some 9, some 47, none, none, none, none, none, none]) (G' := gS n ly 48 r0 46 0 [some 1, some 9, some 47, none, none, none, none, none, none]) (by decide +kernel) (by decide +kernel) rfl rfl rfl (fun _ => ⟨rfl, rfl⟩) rfl rfl rfl rfl ?_
  refine c_seg hX ok_X0_init (Nat.le_of_ble_eq_true rfl) (Nat.le_of_ble_eq_true rfl) 9 (b1 := 10) (L1 := [some (vR 46), some (vR 1), some (vR 9)]) (S1 := [vI (m 1 4), vR 46]) (m1 := mset (mfill (mz m 47) 47 0 ((ly + 1 : Nat) : Int) 1) 47 0 0) ⟨_, rfl, ?_⟩ ?_
  · refine kCall_mono (c_fill _ _ 47 (ly + 1) 1 (by decide) rfl (by omega)) (Nat.le_refl _) ?_
    rintro _ _ ⟨rfl, rfl⟩
    exact ⟨⟨by decide, by show (0 : Int) < ((ly + 1 : Nat) : Int); omega⟩, rfl, rfl, rfl, rfl⟩
  refine c_newa hX (atype := .int) (ft := .int) (ty := 0) (n := n) (o := 48) (cells' := 2) (slots' := 329) (G' := gS n ly 49 r0 46 0 [some 1, some 9, some 47, none, none, none, none, none, none]) 253 (by decide +kernel) rfl rfl (Or.inl ⟨rfl, rfl⟩) (by decide +kernel) rfl rfl rfl hc (by omega) rfl rfl (Nat.le_of_ble_eq_true rfl) (by show 5 + n ≤ 977; omega) (Nat.le_refl _) (by omega) ?_
  refine c_putR hX hin (idx := 38) (ci := 0) (k := 5) (o := 46) (q := 48) (rs := [some 1, some 9, some 47, none, none, none, none, none, none]) (rs' := [some 1, some 9, some 47, none, none, some 48, none, none, none]) (G' := gS n ly 49 r0 46 0 [some 1, some 9, some 47, none, none, some 48, none, none, none]) (by decide +kernel) (by decide +kernel) rfl rfl rfl (fun _ => ⟨rfl, rfl⟩) rfl rfl rfl rfl ?_
  refine c_seg hX ok_X0_init (Nat.le_of_ble_eq_true rfl) (Nat.le_of_ble_eq_true rfl) 12 ⟨_, rfl, rfl, rfl, rfl, rfl⟩ ?_
  refine c_newa hX (atype := .int) (ft := .int) (ty := 0) (n := n) (o := 49) (cells' := 3) (slots' := 653) (G' := gS n ly 50 r0 46 0 [some 1, some 9, some 47, none, none, some 48, none, none, none]) 253 (by decide +kernel) rfl rfl (Or.inl ⟨rfl, rfl⟩) (by decide +kernel) rfl rfl rfl hc (by omega) rfl rfl (Nat.le_of_ble_eq_true rfl) (by show 329 + n ≤ 977; omega) (Nat.le_refl _) (by omega) ?_
  refine c_putR hX hin (idx := 41) (ci := 0) (k := 6) (o := 46) (q := 49) (rs := [some 1, some 9, some 47, none, none, some 48, none, none, none]) (rs' := [some 1, some 9, some 47, none, none, some 48, some 49, none, none]) (G' := gS n ly 50 r0 46 0 [some 1, some 9, some 47, none, none, some 48, some 49, none, none]) (by decide +kernel) (by decide +kernel) rfl rfl rfl (fun _ => ⟨rfl, rfl⟩) rfl rfl rfl rfl ?_
  refine c_seg hX ok_X0_init (Nat.le_of_ble_eq_true rfl) (Nat.le_of_ble_eq_true rfl) 15 ⟨_, rfl, rfl, rfl, rfl, rfl⟩ ?_
  refine c_newa hX (atype := .int) (ft := .int) (ty := 0) (n := n) (o := 50) (cells' := 4) (slots' := 977) (G' := gS n ly 51 r0 46 0 [some 1, some 9, some 47, none, none, some 48, some 49, none, none]) 253 (by decide +kernel) rfl rfl (Or.inl ⟨rfl, rfl⟩) (by decide +kernel) rfl rfl rfl hc (by omega) rfl rfl (Nat.le_of_ble_eq_true rfl) (by show 653 + n ≤ 977; omega) (Nat.le_refl _) (by omega) ?_
  refine c_putR hX hin (idx := 44) (ci := 0) (k := 7) (o := 46) (q := 50) (rs := [some 1, some 9, some 47, none, none, some 48, some 49, none, none]) (rs' := [some 1, some 9, some 47, none, none, some 48, some 49, some 50, none]) (G' := gS n ly 51 r0 46 0 [some 1, some 9, some 47, none, none, some 48, some 49, some 50, none]) (by decide +kernel) (by decide +kernel) rfl rfl rfl (fun _ => ⟨rfl, rfl⟩) rfl rfl rfl rfl ?_
  exact hend _ _ _ (by decide +kernel) rfl
/-- one of the trial's masks, as far as it is filled -/
theorem tri_bit {P : Int → Prop} [DecidablePred P] {old x i : Int} (hi : 0 ≤ i ∧ i < 24) (h : ∀ k : Nat, k < 32 → bt old k = decide ((k : Int) < i ∧ P k)) (hx : (P i ∧ x = kshl 1 i) ∨ (¬ P i ∧ x = 0)) : ∀ k : Nat, k < 32 → bt (kor old x) k = decide ((k : Int) < i + 1 ∧ P k) := by
  intro k hk
  rw [bt_or, h k hk]
  rcases hx with ⟨hp, rfl⟩ | ⟨hp, rfl⟩
  · rw [bt_bit hi.1 (by omega)]
    by_cases e : (k : Int) = i
    · rw [← e] at hp
      simp [e, hp]
      rw [← e]; simp [hp]; omega
    · by_cases hk2 : P k
      · simp [e, hk2]; omega
      · simp [e, hk2]
  · rw [bt_zero]
    by_cases e : (k : Int) = i
    · rw [← e] at hp
      simp [hp]
    · by_cases hk2 : P k
      · simp [hk2]; omega
      · simp [hk2]
def triP (m0 : Mem) (w d : Int) (j : Nat) (k : Int) : Prop := match j with
  | 0 => 0 < m0 3 k
  | 1 => m0 3 k < w - 1
  | 2 => 0 < m0 4 k
  | _ => m0 4 k < d - 1

def triI (m0 : Mem) (w d : Int) (a b c e : Int) (m : Mem) : Prop :=
  (∀ o, o ≠ 41 → m o = m0 o) ∧ (∀ j : Int, j ≠ 7 → j ≠ 8 → j ≠ 9 → j ≠ 10 → m 41 j = m0 41 j) ∧
  (∀ k : Nat, k < 32 → bt (m 41 7) k = decide ((k : Int) < a ∧ 0 < m0 3 k)) ∧ (∀ k : Nat, k < 32 → bt (m 41 8) k = decide ((k : Int) < b ∧ m0 3 k < w - 1)) ∧
  (∀ k : Nat, k < 32 → bt (m 41 9) k = decide ((k : Int) < c ∧ 0 < m0 4 k)) ∧ (∀ k : Nat, k < 32 → bt (m 41 10) k = decide ((k : Int) < e ∧ m0 4 k < d - 1))
theorem triI_7 {m0 m : Mem} {w d a b c e x : Int} (h : triI m0 w d a b c e m) (hi : 0 ≤ a ∧ a < 24) (hx : (0 < m0 3 a ∧ x = kshl 1 a) ∨ (¬ 0 < m0 3 a ∧ x = 0)) : triI m0 w d (a + 1) b c e (fset m 41 7 (kor (m 41 7) x)) := by
  obtain ⟨h1, h2, h3, h4, h5, h6⟩ := h
  refine ⟨fun o ho => by rw [← h1 o ho]; exact k_mset_ne ho, fun j j1 j2 j3 j4 => by rw [← h2 j j1 j2 j3 j4]; unfold fset; rw [k_mset_at]; exact if_neg j1, ?_, h4, h5, h6⟩
  exact tri_bit (P := fun k => 0 < m0 3 k) hi h3 hx
theorem triI_8 {m0 m : Mem} {w d a b c e x : Int} (h : triI m0 w d a b c e m) (hi : 0 ≤ b ∧ b < 24) (hx : (m0 3 b < w - 1 ∧ x = kshl 1 b) ∨ (¬ m0 3 b < w - 1 ∧ x = 0)) : triI m0 w d a (b + 1) c e (fset m 41 8 (kor (m 41 8) x)) := by
  obtain ⟨h1, h2, h3, h4, h5, h6⟩ := h
  refine ⟨fun o ho => by rw [← h1 o ho]; exact k_mset_ne ho, fun j j1 j2 j3 j4 => by rw [← h2 j j1 j2 j3 j4]; unfold fset; rw [k_mset_at]; exact if_neg j2, h3, ?_, h5, h6⟩
  exact tri_bit (P := fun k => m0 3 k < w - 1) hi h4 hx
theorem triI_9 {m0 m : Mem} {w d a b c e x : Int} (h : triI m0 w d a b c e m) (hi : 0 ≤ c ∧ c < 24) (hx : (0 < m0 4 c ∧ x = kshl 1 c) ∨ (¬ 0 < m0 4 c ∧ x = 0)) : triI m0 w d a b (c + 1) e (fset m 41 9 (kor (m 41 9) x)) := by
  obtain ⟨h1, h2, h3, h4, h5, h6⟩ := h
  refine ⟨fun o ho => by rw [← h1 o ho]; exact k_mset_ne ho, fun j j1 j2 j3 j4 => by rw [← h2 j j1 j2 j3 j4]; unfold fset; rw [k_mset_at]; exact if_neg j3, h3, h4, ?_, h6⟩
  exact tri_bit (P := fun k => 0 < m0 4 k) hi h5 hx
theorem triI_10 {m0 m : Mem} {w d a b c e x : Int} (h : triI m0 w d a b c e m) (hi : 0 ≤ e ∧ e < 24) (hx : (m0 4 e < d - 1 ∧ x = kshl 1 e) ∨ (¬ m0 4 e < d - 1 ∧ x = 0)) : triI m0 w d a b c (e + 1) (fset m 41 10 (kor (m 41 10) x)) := by
  obtain ⟨h1, h2, h3, h4, h5, h6⟩ := h
  refine ⟨fun o ho => by rw [← h1 o ho]; exact k_mset_ne ho, fun j j1 j2 j3 j4 => by rw [← h2 j j1 j2 j3 j4]; unfold fset; rw [k_mset_at]; exact if_neg j4, h3, h4, h5, ?_⟩
  exact tri_bit (P := fun k => m0 4 k < d - 1) hi h6 hx
set_option maxRecDepth 100000 in
theorem n_X10_init (B : Bs) (n ly : Nat) (hn : n ≤ 324) (r0 : List (Option Nat)) (m : Mem) (w d : Int) (hc : m 1 4 = (n : Int)) (hw : m 1 0 = w) (hd : m 1 1 = d) (hwr : 0 ≤ w ∧ w ≤ 9) (hdr : 0 ≤ d ∧ d ≤ 9) (hz : ∀ i, m 41 i = 0) : kNew B 1 M_X10_init.1 [vR 41, vR 1, vR 9, vR 22] (gS n ly 42 r0 41 10 (k_nulls 10)) (gS n ly 45 r0 41 10 [some 1, some 9, some 22, some 42, some 43, some 44, none, none, none, none, none]) m 3 9 (fun m' => triI (mzs m [42, 43, 44]) w d (min n 24) (min n 24) (min n 24) (min n 24) m') := by
  refine c_start ok_X10_init rfl rfl rfl (Nat.le_of_ble_eq_true rfl) (fun p e s mm args below meth c Qf ad0 A hX hin hend => ?_)
  refine c_seg hX ok_X10_init (Nat.le_of_ble_eq_true rfl) (Nat.le_of_ble_eq_true rfl) 0 ⟨_, rfl, rfl, rfl, rfl, rfl⟩ ?_
  refine c_obj hX (idx := 3) (pos := 510) (by decide +kernel) (by decide +kernel) rfl rfl rfl ?_
  refine c_seg hX ok_X10_init (Nat.le_of_ble_eq_true rfl) (Nat.le_of_ble_eq_true rfl) 2 ⟨_, rfl, rfl, rfl, rfl, rfl⟩ ?_
  refine c_newa hX (atype := .int) (ft := .int) (ty := 0) (n := 3) (o := 42) (cells' := 1) (slots' := 3) (G' := gS n ly 43 r0 41 10 [none, none, none, none, none, none, none, none, none, none, none]) 253 (by decide +kernel) rfl rfl (Or.inl ⟨rfl, rfl⟩) (by decide +kernel) rfl rfl rfl rfl (by omega) rfl rfl (Nat.le_of_ble_eq_true rfl) (by show 0 + 3 ≤ 9; omega) (Nat.le_refl _) (by omega) ?_
  refine c_putR hX hin (idx := 11) (ci := 10) (k := 3) (o := 41) (q := 42) (rs := [none, none, none, none, none, none, none, none, none, none, none]) (rs' := [none, none, none, some 42, none, none, none, none, none, none, none]) (G' := gS n ly 43 r0 41 10 [none, none, none, some 42, none, none, none, none, none, none, none]) (by decide +kernel) (by decide +kernel) rfl rfl rfl (fun _ => ⟨rfl, rfl⟩) rfl rfl rfl rfl ?_
  refine c_seg hX ok_X10_init (Nat.le_of_ble_eq_true rfl) (Nat.le_of_ble_eq_true rfl) 5 ⟨_, rfl, rfl, rfl, rfl, rfl⟩ ?_
  refine c_newa hX (atype := .int) (ft := .int) (ty := 0) (n := 3) (o := 43) (cells' := 2) (slots' := 6) (G' := gS n ly 44 r0 41 10 [none, none, none, some 42, none, none, none, none, none, none, none]) 253 (by decide +kernel) rfl rfl (Or.inl ⟨rfl, rfl⟩) (by decide +kernel) rfl rfl rfl rfl (by omega) rfl rfl (Nat.le_of_ble_eq_true rfl) (by show 3 + 3 ≤ 9; omega) (Nat.le_refl _) (by omega) ?_
  refine c_putR hX hin (idx := 15) (ci := 10) (k := 4) (o := 41) (q := 43) (rs := [none, none, none, some 42, none, none, none, none, none, none, none]) (rs' := [none, none, none, some 42, some 43, none, none, none, none, none, none]) (G' := gS n ly 44 r0 41 10 [none, none, none, some 42, some 43, none, none, none, none, none, none]) (by decide +kernel) (by decide +kernel) rfl rfl rfl (fun _ => ⟨rfl, rfl⟩) rfl rfl rfl rfl ?_
  refine c_seg hX ok_X10_init (Nat.le_of_ble_eq_true rfl) (Nat.le_of_ble_eq_true rfl) 8 ⟨_, rfl, rfl, rfl, rfl, rfl⟩ ?_
  refine c_newa hX (atype := .int) (ft := .int) (ty := 0) (n := 3) (o := 44) (cells' := 3) (slots' := 9) (G' := gS n ly 45 r0 41 10 [none, none, none, some 42, some 43, none, none, none, none, none, none]) 253 (by decide +kernel) rfl rfl (Or.inl ⟨rfl, rfl⟩) (by decide +kernel) rfl rfl rfl rfl (by omega) rfl rfl (Nat.le_of_ble_eq_true rfl) (by show 6 + 3 ≤ 9; omega) (Nat.le_refl _) (by omega) ?_
  refine c_putR hX hin (idx := 18) (ci := 10) (k := 5) (o := 41) (q := 44) (rs := [none, none, none, some 42, some 43, none, none, none, none, none, none]) (rs' := [none, none, none, some 42, some 43, some 44, none, none, none, none, none]) (G' := gS n ly 45 r0 41 10 [none, none, none, some 42, some 43, some 44, none, none, none, none, none]) (by decide +kernel) (by decide +kernel) rfl rfl rfl (fun _ => ⟨rfl, rfl⟩) rfl rfl rfl rfl ?_
  refine c_seg hX ok_X10_init (Nat.le_of_ble_eq_true rfl) (Nat.le_of_ble_eq_true rfl) 11 ⟨_, rfl, rfl, rfl, rfl, rfl⟩ ?_
  refine c_putR hX hin (idx := 21) (ci := 10) (k := 0) (o := 41) (q := 1) (rs := [none, none, none, some 42, some 43, some 44, none, none, none, none, none]) (rs' := [some 1, none, none, some 42, some 43, some 44, none, none, none, none, none]) (G' := gS n ly 45 r0 41 10 [some 1, none, none, some 42, some 43, some 44, none, none, none, none, none]) (by decide +kernel) (by decide +kernel) rfl rfl rfl (fun _ => ⟨rfl, rfl⟩) rfl rfl rfl rfl ?_
  refine c_seg hX ok_X10_init (Nat.le_of_ble_eq_true rfl) (Nat.le_of_ble_eq_true rfl) 13 ⟨_, rfl, rfl, rfl, rfl, rfl⟩ ?_
  refine c_putR hX hin (idx := 25) (ci := 10) (k := 1) (o := 41) (q := 9) (rs := [some 1, none, none, some 42, some 43, some 44, none, none, none, none, none]) (rs' := [some 1, some 9, none, some 42, some 43, some 44, none, none, none, none, none]) (G' := gS n ly 45 r0 41 10 [some 1, some 9, none, some 42, some 43, some 44, none, none, none, none, none]) (by decide +kernel) (by decide +kernel) rfl rfl rfl (fun _ => ⟨rfl, rfl⟩) rfl rfl rfl rfl ?_
  refine c_seg hX ok_X10_init (Nat.le_of_ble_eq_true rfl) (Nat.le_of_ble_eq_true rfl) 15 ⟨_, rfl, rfl, rfl, rfl, rfl⟩ ?_
  refine c_putR hX hin (idx := 29) (ci := 10) (k := 2) (o := 41) (q := 22) (rs := [some 1, some 9, none, some 42, some 43, some 44, none, none, none, none, none]) (rs' := [some 1, some 9, some 22, some 42, some 43, some 44, none, none, none, none, none]) (G' := gS n ly 45 r0 41 10 [some 1, some 9, some 22, some 42, some 43, some 44, none, none, none, none, none]) (by decide +kernel) (by decide +kernel) rfl rfl rfl (fun _ => ⟨rfl, rfl⟩) rfl rfl rfl rfl ?_
  refine c_seg hX ok_X10_init (Nat.le_of_ble_eq_true rfl) (Nat.le_of_ble_eq_true rfl) 17 ⟨_, rfl, rfl, rfl, rfl, rfl⟩ ?_
  generalize hm0 : mzs m [42, 43, 44] = m0 at hend ⊢
  have hm0' : mz (mz (mz m 42) 43) 44 = m0 := hm0
  rw [hm0']
  have h0c : m0 1 4 = (n : Int) := by rw [← hm0]; exact hc
  have h0w : m0 1 0 = w := by rw [← hm0]; exact hw
  have h0d : m0 1 1 = d := by rw [← hm0]; exact hd
  have h0z : ∀ i, m0 41 i = 0 := by intro i; rw [← hm0]; exact hz i
  have loop : ∀ (k : Nat) (i : Int) (x5 : Option AV) (m : Mem), 0 ≤ i → i + (k : Int) = min (n : Int) 24 → triI m0 w d i i i i m → cW B M_X10_init p e { frames := 0 + 1, cells := 3, slots := 9, locals := 40 * (0 + 1) } s mm args below meth c 3 9 Qf ad0 (gS n ly 42 r0 41 10 (k_nulls 10)).length A (gS n ly 45 r0 41 10 [some 1, some 9, some 22, some 42, some 43, some 44, none, none, none, none, none]) (k_pc M_X10_init 18) [some (vR 41), some (vR 1), some (vR 9), some (vR 22), some (vI i), x5] [] m := by
    intro k
    induction k with
    | zero =>
      intro i x5 m h0 h1 hI
      have hcm : m 1 4 = (n : Int) := by rw [hI.1 1 (by decide)]; exact h0c
      refine c_go hX ok_X10_init (Nat.le_of_ble_eq_true rfl) (Nat.le_of_ble_eq_true rfl) [18, 20, 22, 24, 26, 27] 5 18 ?_
      have hfin : cW B M_X10_init p e { frames := 0 + 1, cells := 3, slots := 9, locals := 40 * (0 + 1) } s mm args below meth c 3 9 Qf ad0 (gS n ly 42 r0 41 10 (k_nulls 10)).length A (gS n ly 45 r0 41 10 [some 1, some 9, some 22, some 42, some 43, some 44, none, none, none, none, none]) (k_pc M_X10_init 27) [some (vR 41), some (vR 1), some (vR 9), some (vR 22), some (vI i), x5] [] m := hend _ _ _ (by decide +kernel) (by rw [← show i = min (n : Int) 24 by omega]; exact hI)
      refine And.intro (fun _ => hfin) (fun h2 => And.intro (fun _ => hfin) (fun h3 => ?_))
      have h2 : i < m 1 4 := h2
      omega
    | succ k ih =>
      intro i x5 m h0 h1 hI
      have hcm : m 1 4 = (n : Int) := by rw [hI.1 1 (by decide)]; exact h0c
      have hin24 : i < 24 := by omega
      have hinn : i < n := by omega
      have t26 : ∀ (x : Int) (m : Mem), triI m0 w d (i + 1) (i + 1) (i + 1) i m → ((m0 4 i < d - 1 ∧ x = kshl 1 i) ∨ (¬ m0 4 i < d - 1 ∧ x = 0)) → cW B M_X10_init p e { frames := 0 + 1, cells := 3, slots := 9, locals := 40 * (0 + 1) } s mm args below meth c 3 9 Qf ad0 (gS n ly 42 r0 41 10 (k_nulls 10)).length A (gS n ly 45 r0 41 10 [some 1, some 9, some 22, some 42, some 43, some 44, none, none, none, none, none]) (k_pc M_X10_init 26) [some (vR 41), some (vR 1), some (vR 9), some (vR 22), some (vI i), some (vI (kshl 1 i))] [vI x, vI (m 41 10), vR 41] m := by
        intro x m hI hx
        refine c_go hX ok_X10_init (Nat.le_of_ble_eq_true rfl) (Nat.le_of_ble_eq_true rfl) [18, 20, 22, 24, 26, 27] 5 26 ?_
        exact ⟨by constructor <;> omega, ih (i + 1) _ _ (by omega) (by omega) (triI_10 hI ⟨h0, hin24⟩ hx)⟩
      have t24 : ∀ (x : Int) (m : Mem), triI m0 w d (i + 1) (i + 1) i i m → ((0 < m0 4 i ∧ x = kshl 1 i) ∨ (¬ 0 < m0 4 i ∧ x = 0)) → cW B M_X10_init p e { frames := 0 + 1, cells := 3, slots := 9, locals := 40 * (0 + 1) } s mm args below meth c 3 9 Qf ad0 (gS n ly 42 r0 41 10 (k_nulls 10)).length A (gS n ly 45 r0 41 10 [some 1, some 9, some 22, some 42, some 43, some 44, none, none, none, none, none]) (k_pc M_X10_init 24) [some (vR 41), some (vR 1), some (vR 9), some (vR 22), some (vI i), some (vI (kshl 1 i))] [vI x, vI (m 41 9), vR 41] m := by
        intro x m hI hx
        have hJ := triI_9 hI ⟨h0, hin24⟩ hx
        generalize hm1 : fset m 41 9 (kor (m 41 9) x) = m1 at hJ
        have hdm : m1 1 1 = d := by rw [hJ.1 1 (by decide)]; exact h0d
        have hym : m1 4 i = m0 4 i := by rw [hJ.1 4 (by decide)]
        refine c_go hX ok_X10_init (Nat.le_of_ble_eq_true rfl) (Nat.le_of_ble_eq_true rfl) [18, 20, 22, 24, 26, 27] 5 24 ?_
        show (0 ≤ i ∧ i < (n : Int)) ∧ (inR (fset m 41 9 (kor (m 41 9) x) 1 1 - 1)) ∧ _
        rw [hm1]
        refine ⟨⟨h0, hinn⟩, by rw [hdm]; constructor <;> omega, And.intro (fun h5 => ?_) (fun h5 => ?_)⟩
        · have h5 : m1 1 1 - 1 ≤ m1 4 i := h5
          exact t26 0 m1 hJ (Or.inr ⟨by omega, rfl⟩)
        · have h5 : m1 4 i < m1 1 1 - 1 := h5
          exact t26 _ m1 hJ (Or.inl ⟨by omega, rfl⟩)
      have t22 : ∀ (x : Int) (m : Mem), triI m0 w d (i + 1) i i i m → ((m0 3 i < w - 1 ∧ x = kshl 1 i) ∨ (¬ m0 3 i < w - 1 ∧ x = 0)) → cW B M_X10_init p e { frames := 0 + 1, cells := 3, slots := 9, locals := 40 * (0 + 1) } s mm args below meth c 3 9 Qf ad0 (gS n ly 42 r0 41 10 (k_nulls 10)).length A (gS n ly 45 r0 41 10 [some 1, some 9, some 22, some 42, some 43, some 44, none, none, none, none, none]) (k_pc M_X10_init 22) [some (vR 41), some (vR 1), some (vR 9), some (vR 22), some (vI i), some (vI (kshl 1 i))] [vI x, vI (m 41 8), vR 41] m := by
        intro x m hI hx
        have hJ := triI_8 hI ⟨h0, hin24⟩ hx
        generalize hm1 : fset m 41 8 (kor (m 41 8) x) = m1 at hJ
        have hym : m1 4 i = m0 4 i := by rw [hJ.1 4 (by decide)]
        refine c_go hX ok_X10_init (Nat.le_of_ble_eq_true rfl) (Nat.le_of_ble_eq_true rfl) [18, 20, 22, 24, 26, 27] 5 22 ?_
        show (0 ≤ i ∧ i < (n : Int)) ∧ (_ ∧ _)
        refine ⟨⟨h0, hinn⟩, And.intro (fun h5 => ?_) (fun h5 => ?_)⟩
        · have h5 : fset m 41 8 (kor (m 41 8) x) 4 i ≤ 0 := h5
          rw [hm1] at h5
          show cW B M_X10_init p e { frames := 0 + 1, cells := 3, slots := 9, locals := 40 * (0 + 1) } s mm args below meth c 3 9 Qf ad0 (gS n ly 42 r0 41 10 (k_nulls 10)).length A (gS n ly 45 r0 41 10 [some 1, some 9, some 22, some 42, some 43, some 44, none, none, none, none, none]) (k_pc M_X10_init 24) [some (vR 41), some (vR 1), some (vR 9), some (vR 22), some (vI i), some (vI (kshl 1 i))] [vI 0, vI (fset m 41 8 (kor (m 41 8) x) 41 9), vR 41] (fset m 41 8 (kor (m 41 8) x))
          rw [hm1]
          exact t24 0 m1 hJ (Or.inr ⟨by omega, rfl⟩)
        · have h5 : 0 < fset m 41 8 (kor (m 41 8) x) 4 i := h5
          rw [hm1] at h5
          show cW B M_X10_init p e { frames := 0 + 1, cells := 3, slots := 9, locals := 40 * (0 + 1) } s mm args below meth c 3 9 Qf ad0 (gS n ly 42 r0 41 10 (k_nulls 10)).length A (gS n ly 45 r0 41 10 [some 1, some 9, some 22, some 42, some 43, some 44, none, none, none, none, none]) (k_pc M_X10_init 24) [some (vR 41), some (vR 1), some (vR 9), some (vR 22), some (vI i), some (vI (kshl 1 i))] [vI (kshl 1 i), vI (fset m 41 8 (kor (m 41 8) x) 41 9), vR 41] (fset m 41 8 (kor (m 41 8) x))
          rw [hm1]
          exact t24 _ m1 hJ (Or.inl ⟨by omega, rfl⟩)
      have t20 : ∀ (x : Int) (m : Mem), triI m0 w d i i i i m → ((0 < m0 3 i ∧ x = kshl 1 i) ∨ (¬ 0 < m0 3 i ∧ x = 0)) → cW B M_X10_init p e { frames := 0 + 1, cells := 3, slots := 9, locals := 40 * (0 + 1) } s mm args below meth c 3 9 Qf ad0 (gS n ly 42 r0 41 10 (k_nulls 10)).length A (gS n ly 45 r0 41 10 [some 1, some 9, some 22, some 42, some 43, some 44, none, none, none, none, none]) (k_pc M_X10_init 20) [some (vR 41), some (vR 1), some (vR 9), some (vR 22), some (vI i), some (vI (kshl 1 i))] [vI x, vI (m 41 7), vR 41] m := by
        intro x m hI hx
        have hJ := triI_7 hI ⟨h0, hin24⟩ hx
        generalize hm1 : fset m 41 7 (kor (m 41 7) x) = m1 at hJ
        have hwm : m1 1 0 = w := by rw [hJ.1 1 (by decide)]; exact h0w
        have hym : m1 3 i = m0 3 i := by rw [hJ.1 3 (by decide)]
        refine c_go hX ok_X10_init (Nat.le_of_ble_eq_true rfl) (Nat.le_of_ble_eq_true rfl) [18, 20, 22, 24, 26, 27] 5 20 ?_
        show (0 ≤ i ∧ i < (n : Int)) ∧ (inR (fset m 41 7 (kor (m 41 7) x) 1 0 - 1)) ∧ (_ ∧ _)
        refine ⟨⟨h0, hinn⟩, by rw [hm1, hwm]; constructor <;> omega, And.intro (fun h5 => ?_) (fun h5 => ?_)⟩
        · have h5 : fset m 41 7 (kor (m 41 7) x) 1 0 - 1 ≤ fset m 41 7 (kor (m 41 7) x) 3 i := h5
          rw [hm1] at h5
          show cW B M_X10_init p e { frames := 0 + 1, cells := 3, slots := 9, locals := 40 * (0 + 1) } s mm args below meth c 3 9 Qf ad0 (gS n ly 42 r0 41 10 (k_nulls 10)).length A (gS n ly 45 r0 41 10 [some 1, some 9, some 22, some 42, some 43, some 44, none, none, none, none, none]) (k_pc M_X10_init 22) [some (vR 41), some (vR 1), some (vR 9), some (vR 22), some (vI i), some (vI (kshl 1 i))] [vI 0, vI (fset m 41 7 (kor (m 41 7) x) 41 8), vR 41] (fset m 41 7 (kor (m 41 7) x))
          rw [hm1]
          exact t22 0 m1 hJ (Or.inr ⟨by omega, rfl⟩)
        · have h5 : fset m 41 7 (kor (m 41 7) x) 3 i < fset m 41 7 (kor (m 41 7) x) 1 0 - 1 := h5
          rw [hm1] at h5
          show cW B M_X10_init p e { frames := 0 + 1, cells := 3, slots := 9, locals := 40 * (0 + 1) } s mm args below meth c 3 9 Qf ad0 (gS n ly 42 r0 41 10 (k_nulls 10)).length A (gS n ly 45 r0 41 10 [some 1, some 9, some 22, some 42, some 43, some 44, none, none, none, none, none]) (k_pc M_X10_init 22) [some (vR 41), some (vR 1), some (vR 9), some (vR 22), some (vI i), some (vI (kshl 1 i))] [vI (kshl 1 i), vI (fset m 41 7 (kor (m 41 7) x) 41 8), vR 41] (fset m 41 7 (kor (m 41 7) x))
          rw [hm1]
          exact t22 _ m1 hJ (Or.inl ⟨by omega, rfl⟩)
      have hxm : m 3 i = m0 3 i := by rw [hI.1 3 (by decide)]
      refine c_go hX ok_X10_init (Nat.le_of_ble_eq_true rfl) (Nat.le_of_ble_eq_true rfl) [18, 20, 22, 24, 26, 27] 5 18 ?_
      refine And.intro (fun h2 => ?_) (fun _ => And.intro (fun h3 => ?_) (fun _ => ⟨⟨h0, hinn⟩, And.intro (fun h5 => ?_) (fun h5 => ?_)⟩))
      · have h2 : m 1 4 ≤ i := h2
        omega
      · have h3 : 24 ≤ i := h3
        omega
      · have h5 : m 3 i ≤ 0 := h5
        exact t20 0 m hI (Or.inr ⟨by omega, rfl⟩)
      · have h5 : 0 < m 3 i := h5
        exact t20 _ m hI (Or.inl ⟨by omega, rfl⟩)
  exact loop (min n 24) 0 none m0 (by omega) (by omega) ⟨fun _ _ => rfl, fun _ _ _ _ _ => rfl, fun k _ => by rw [h0z, bt_zero]; simp; omega, fun k _ => by rw [h0z, bt_zero]; simp; omega, fun k _ => by rw [h0z, bt_zero]; simp; omega, fun k _ => by rw [h0z, bt_zero]; simp; omega⟩
end
section
/-! the constructor of Grid -/
def gridC (m : Mem) (w d l : Int) : Prop := m 1 0 = w ∧ m 1 1 = d ∧ m 1 2 = l ∧ m 1 3 = w * d ∧ m 1 4 = w * d * l ∧ ∀ c, inC w d l c → m 3 c = gX w c ∧ m 4 c = gY w d c ∧ m 5 c = gZ w d c ∧ ∀ k, 0 ≤ k → k < 6 → m 2 (c * 6 + k) = nx w d l c k
theorem nx_ix {w d l x y z : Int} (hx : 0 ≤ x ∧ x < w) (hy : 0 ≤ y ∧ y < d) (k : Int) : nx w d l (ix w d x y z) k = if (0 ≤ x + dX k ∧ x + dX k < w) ∧ (0 ≤ y + dY k ∧ y + dY k < d) ∧ (0 ≤ z + dZ k ∧ z + dZ k < l) then ix w d (x + dX k) (y + dY k) (z + dZ k) else -1 := by
  unfold nx
  rw [ix_X hx, ix_Y hx hy, ix_Z hx hy]
theorem nx_no {w d l x y z k : Int} (hx : 0 ≤ x ∧ x < w) (hy : 0 ≤ y ∧ y < d) (h : ¬ ((0 ≤ x + dX k ∧ x + dX k < w) ∧ (0 ≤ y + dY k ∧ y + dY k < d) ∧ (0 ≤ z + dZ k ∧ z + dZ k < l))) : -1 = nx w d l (ix w d x y z) k := by rw [nx_ix hx hy, if_neg h]
theorem nx_yes {w d l x y z k : Int} (hx : 0 ≤ x ∧ x < w) (hy : 0 ≤ y ∧ y < d) (h : (0 ≤ x + dX k ∧ x + dX k < w) ∧ (0 ≤ y + dY k ∧ y + dY k < d) ∧ (0 ≤ z + dZ k ∧ z + dZ k < l)) : ix w d x y z + dX k + dY k * w + dZ k * (w * d) = nx w d l (ix w d x y z) k := by
  rw [nx_ix hx hy, if_pos h]
  unfold ix
  rw [Int.add_mul, Int.add_mul]
  omega
theorem dXs : dX 0 = 0 ∧ dX 1 = 1 ∧ dX 2 = 0 ∧ dX 3 = -1 ∧ dX 4 = 0 ∧ dX 5 = 0 := by decide
theorem dYs : dY 0 = -1 ∧ dY 1 = 0 ∧ dY 2 = 1 ∧ dY 3 = 0 ∧ dY 4 = 0 ∧ dY 5 = 0 := by decide
theorem dZs : dZ 0 = 0 ∧ dZ 1 = 0 ∧ dZ 2 = 0 ∧ dZ 3 = 0 ∧ dZ 4 = 1 ∧ dZ 5 = -1 := by decide
theorem ix_xw {w d y z : Int} : ix w d w y z = ix w d 0 (y + 1) z := by unfold ix; rw [Int.add_mul]; omega
theorem ix_yd {w d z : Int} : ix w d 0 d z = ix w d 0 0 (z + 1) := by
  unfold ix
  have h := Int.mul_comm d w
  rw [Int.add_mul z 1]; omega
theorem ix_x1 {w d x y z : Int} : ix w d x y z + 1 = ix w d (x + 1) y z := by unfold ix; omega
def gP (m0 : Mem) (w d l cell : Int) (m : Mem) : Prop := (∀ o, o ≠ 2 → o ≠ 3 → o ≠ 4 → o ≠ 5 → m o = m0 o) ∧ ∀ c, 0 ≤ c → c < cell → m 3 c = gX w c ∧ m 4 c = gY w d c ∧ m 5 c = gZ w d c ∧ ∀ k, 0 ≤ k → k < 6 → m 2 (c * 6 + k) = nx w d l c k
def gQ (m0 : Mem) (w d l cell j : Int) (m : Mem) : Prop := gP m0 w d l cell m ∧ m 3 cell = gX w cell ∧ m 4 cell = gY w d cell ∧ m 5 cell = gZ w d cell ∧ ∀ k, 0 ≤ k → k < j → m 2 (cell * 6 + k) = nx w d l cell k
theorem gQ_step {m0 m : Mem} {w d l cell j v : Int} (hj : 0 ≤ j ∧ j < 6) (h : gQ m0 w d l cell j m) (hv : v = nx w d l cell j) : gQ m0 w d l cell (j + 1) (mset m 2 (cell * 6 + j) v) := by
  obtain ⟨⟨h1, h2⟩, h3, h4, h5, h6⟩ := h
  refine ⟨⟨fun o o2 o3 o4 o5 => by rw [k_mset_ne o2]; exact h1 o o2 o3 o4 o5, fun c c0 c1 => ?_⟩, ?_, ?_, ?_, fun k k0 k1 => ?_⟩
  · obtain ⟨a1, a2, a3, a4⟩ := h2 c c0 c1
    refine ⟨by rw [k_mset_ne (by decide)]; exact a1, by rw [k_mset_ne (by decide)]; exact a2, by rw [k_mset_ne (by decide)]; exact a3, fun k k0 k1 => ?_⟩
    rw [k_mset_at, if_neg (by omega)]
    exact a4 k k0 k1
  · rw [k_mset_ne (by decide)]; exact h3
  · rw [k_mset_ne (by decide)]; exact h4
  · rw [k_mset_ne (by decide)]; exact h5
  · rw [k_mset_at]
    by_cases hk : k = j
    · rw [if_pos (by omega), hv, hk]
    · rw [if_neg (by omega)]
      exact h6 k k0 (by omega)
theorem gQ_6 {m0 m : Mem} {w d l cell : Int} (h : gQ m0 w d l cell 6 m) : gP m0 w d l (cell + 1) m := by
  obtain ⟨⟨h1, h2⟩, h3, h4, h5, h6⟩ := h
  refine ⟨h1, fun c c0 c1 => ?_⟩
  by_cases hc : c = cell
  · subst hc
    exact ⟨h3, h4, h5, h6⟩
  · exact h2 c c0 (by omega)
theorem gP_0 {m0 m : Mem} {w d l x y z : Int} (hx : 0 ≤ x ∧ x < w) (hy : 0 ≤ y ∧ y < d) (h : gP m0 w d l (ix w d x y z) m) : gQ m0 w d l (ix w d x y z) 0 (mset (mset (mset m 3 (ix w d x y z) x) 4 (ix w d x y z) y) 5 (ix w d x y z) z) := by
  obtain ⟨h1, h2⟩ := h
  refine ⟨⟨fun o o2 o3 o4 o5 => by rw [k_mset_ne o5, k_mset_ne o4, k_mset_ne o3]; exact h1 o o2 o3 o4 o5, fun c c0 c1 => ?_⟩, ?_, ?_, ?_, fun k k0 k1 => absurd k1 (by omega)⟩
  · obtain ⟨a1, a2, a3, a4⟩ := h2 c c0 c1
    have hc : c ≠ ix w d x y z := by omega
    refine ⟨?_, ?_, ?_, fun k k0 k1 => ?_⟩
    · rw [k_mset_ne (by decide), k_mset_ne (by decide), k_mset_at, if_neg hc]; exact a1
    · rw [k_mset_ne (by decide), k_mset_at, if_neg hc, k_mset_ne (by decide)]; exact a2
    · rw [k_mset_at, if_neg hc, k_mset_ne (by decide), k_mset_ne (by decide)]; exact a3
    · rw [k_mset_ne (by decide), k_mset_ne (by decide), k_mset_ne (by decide)]; exact a4 k k0 k1
  · rw [k_mset_ne (by decide), k_mset_ne (by decide), k_mset_at, if_pos rfl, ix_X hx]
  · rw [k_mset_ne (by decide), k_mset_at, if_pos rfl, ix_Y hx hy]
  · rw [k_mset_at, if_pos rfl, ix_Z hx hy]
set_option maxRecDepth 100000 in
theorem n_X2_init (B : Bs) (n ly : Nat) (r0 : List (Option Nat)) (m : Mem) (w d l : Int) (hD : okD w d l) (hc : w * d * l = (n : Int)) : kNew B 1 M_X2_init.1 [vR 1, vI w, vI d, vI l] (gS n ly 2 r0 1 2 (k_nulls 2)) (gS n ly 6 r0 1 2 [none, none, none, none, none, some 2, some 3, some 4, some 5]) m 4 2916 (fun m' => gridC m' w d l ∧ ∀ o, o ≠ 1 → o ≠ 2 → o ≠ 3 → o ≠ 4 → o ≠ 5 → m' o = m o) := by
  have hcc := okD_cells hD
  have hff := okD_floor hD
  obtain ⟨⟨hw1, hw2⟩, ⟨hd1, hd2⟩, hl1, hl2⟩ := id hD
  have hn : n ≤ 324 := by omega
  have hc6 : w * d * l * 6 = ((n * 6 : Nat) : Int) := by rw [hc]; omega
  have hi6 : inR (w * d * l * 6) := by rw [hc6]; constructor <;> omega
  have hiwd : inR (w * d) := by constructor <;> omega
  have hic : inR (w * d * l) := by constructor <;> omega
  refine c_start ok_X2_init rfl rfl rfl (Nat.le_of_ble_eq_true rfl) (fun p e s mm args below meth c Qf ad0 A hX hin hend => ?_)
  refine c_seg hX ok_X2_init (Nat.le_of_ble_eq_true rfl) (Nat.le_of_ble_eq_true rfl) 0 ⟨_, rfl, rfl, rfl, rfl, rfl⟩ ?_
  refine c_obj hX (idx := 3) (pos := 184) (by decide +kernel) (by decide +kernel) rfl rfl rfl ?_
  refine c_seg hX ok_X2_init (Nat.le_of_ble_eq_true rfl) (Nat.le_of_ble_eq_true rfl) 2 ⟨_, rfl, rfl, rfl, rfl, rfl⟩ ?_
  refine c_putI hX hin (idx := 9) (ci := 2) (k := 0) (o := 1) (rs := [none, none, none, none, none, none, none, none, none]) (by decide +kernel) (by decide +kernel) rfl rfl rfl ?_
  refine c_seg hX ok_X2_init (Nat.le_of_ble_eq_true rfl) (Nat.le_of_ble_eq_true rfl) 4 ⟨_, rfl, rfl, rfl, rfl, rfl⟩ ?_
  refine c_putI hX hin (idx := 15) (ci := 2) (k := 1) (o := 1) (rs := [none, none, none, none, none, none, none, none, none]) (by decide +kernel) (by decide +kernel) rfl rfl rfl ?_
  refine c_seg hX ok_X2_init (Nat.le_of_ble_eq_true rfl) (Nat.le_of_ble_eq_true rfl) 6 ⟨_, rfl, rfl, rfl, rfl, rfl⟩ ?_
  refine c_putI hX hin (idx := 18) (ci := 2) (k := 2) (o := 1) (rs := [none, none, none, none, none, none, none, none, none]) (by decide +kernel) (by decide +kernel) rfl rfl rfl ?_
  refine c_seg hX ok_X2_init (Nat.le_of_ble_eq_true rfl) (Nat.le_of_ble_eq_true rfl) 8 ⟨_, rfl, hiwd, rfl, rfl, rfl, rfl⟩ ?_
  refine c_putI hX hin (idx := 21) (ci := 2) (k := 3) (o := 1) (rs := [none, none, none, none, none, none, none, none, none]) (by decide +kernel) (by decide +kernel) rfl rfl rfl ?_
  refine c_seg hX ok_X2_init (Nat.le_of_ble_eq_true rfl) (Nat.le_of_ble_eq_true rfl) 10 ⟨_, rfl, hic, rfl, rfl, rfl, rfl⟩ ?_
  refine c_putI hX hin (idx := 24) (ci := 2) (k := 4) (o := 1) (rs := [none, none, none, none, none, none, none, none, none]) (by decide +kernel) (by decide +kernel) rfl rfl rfl ?_
  refine c_seg hX ok_X2_init (Nat.le_of_ble_eq_true rfl) (Nat.le_of_ble_eq_true rfl) 12 ⟨_, rfl, hi6, rfl, rfl, rfl, rfl⟩ ?_
  refine c_newa hX (atype := .int) (ft := .int) (ty := 0) (n := (n * 6)) (o := 2) (cells' := 1) (slots' := 1944) (G' := gS n ly 3 r0 1 2 [none, none, none, none, none, none, none, none, none]) 253 (by decide +kernel) rfl rfl (Or.inl ⟨rfl, rfl⟩) (by decide +kernel) rfl rfl rfl hc6 (by omega) rfl rfl (Nat.le_of_ble_eq_true rfl) (by show 0 + (n * 6) ≤ 2916; omega) (Nat.le_refl _) (by omega) ?_
  refine c_putR hX hin (idx := 27) (ci := 2) (k := 5) (o := 1) (q := 2) (rs := [none, none, none, none, none, none, none, none, none]) (rs' := [none, none, none, none, none, some 2, none, none, none]) (G' := gS n ly 3 r0 1 2 [none, none, none, none, none, some 2, none, none, none]) (by decide +kernel) (by decide +kernel) rfl rfl rfl (fun _ => ⟨rfl, rfl⟩) rfl rfl rfl rfl ?_
  refine c_seg hX ok_X2_init (Nat.le_of_ble_eq_true rfl) (Nat.le_of_ble_eq_true rfl) 15 ⟨_, rfl, rfl, rfl, rfl, rfl⟩ ?_
  refine c_newa hX (atype := .int) (ft := .int) (ty := 0) (n := n) (o := 3) (cells' := 2) (slots' := 2268) (G' := gS n ly 4 r0 1 2 [none, none, none, none, none, some 2, none, none, none]) 253 (by decide +kernel) rfl rfl (Or.inl ⟨rfl, rfl⟩) (by decide +kernel) rfl rfl rfl hc (by omega) rfl rfl (Nat.le_of_ble_eq_true rfl) (by show 1944 + n ≤ 2916; omega) (Nat.le_refl _) (by omega) ?_
  refine c_putR hX hin (idx := 31) (ci := 2) (k := 6) (o := 1) (q := 3) (rs := [none, none, none, none, none, some 2, none, none, none]) (rs' := [none, none, none, none, none, some 2, some 3, none, none]) (G' := gS n ly 4 r0 1 2 [none, none, none, none, none, some 2, some 3, none, none]) (by decide +kernel) (by decide +kernel) rfl rfl rfl (fun _ => ⟨rfl, rfl⟩) rfl rfl rfl rfl ?_
  refine c_seg hX ok_X2_init (Nat.le_of_ble_eq_true rfl) (Nat.le_of_ble_eq_true rfl) 18 ⟨_, rfl, rfl, rfl, rfl, rfl⟩ ?_
  refine c_newa hX (atype := .int) (ft := .int) (ty := 0) (n := n) (o := 4) (cells' := 3) (slots' := 2592) (G' := gS n ly 5 r0 1 2 [none, none, none, none, none, some 2, some 3, none, none]) 253 (by decide +kernel) rfl rfl (Or.inl ⟨rfl, rfl⟩) (by decide +kernel) rfl rfl rfl hc (by omega) rfl rfl (Nat.le_of_ble_eq_true rfl) (by show 2268 + n ≤ 2916; omega) (Nat.le_refl _) (by omega) ?_
  refine c_putR hX hin (idx := 34) (ci := 2) (k := 7) (o := 1) (q := 4) (rs := [none, none, none, none, none, some 2, some 3, none, none]) (rs' := [none, none, none, none, none, some 2, some 3, some 4, none]) (G' := gS n ly 5 r0 1 2 [none, none, none, none, none, some 2, some 3, some 4, none]) (by decide +kernel) (by decide +kernel) rfl rfl rfl (fun _ => ⟨rfl, rfl⟩) rfl rfl rfl rfl ?_
  refine c_seg hX ok_X2_init (Nat.le_of_ble_eq_true rfl) (Nat.le_of_ble_eq_true rfl) 21 ⟨_, rfl, rfl, rfl, rfl, rfl⟩ ?_
  refine c_newa hX (atype := .int) (ft := .int) (ty := 0) (n := n) (o := 5) (cells' := 4) (slots' := 2916) (G' := gS n ly 6 r0 1 2 [none, none, none, none, none, some 2, some 3, some 4, none]) 253 (by decide +kernel) rfl rfl (Or.inl ⟨rfl, rfl⟩) (by decide +kernel) rfl rfl rfl hc (by omega) rfl rfl (Nat.le_of_ble_eq_true rfl) (by show 2592 + n ≤ 2916; omega) (Nat.le_refl _) (by omega) ?_
  refine c_putR hX hin (idx := 37) (ci := 2) (k := 8) (o := 1) (q := 5) (rs := [none, none, none, none, none, some 2, some 3, some 4, none]) (rs' := [none, none, none, none, none, some 2, some 3, some 4, some 5]) (G' := gS n ly 6 r0 1 2 [none, none, none, none, none, some 2, some 3, some 4, some 5]) (by decide +kernel) (by decide +kernel) rfl rfl rfl (fun _ => ⟨rfl, rfl⟩) rfl rfl rfl rfl ?_
  refine c_seg hX ok_X2_init (Nat.le_of_ble_eq_true rfl) (Nat.le_of_ble_eq_true rfl) 24 ⟨_, rfl, rfl, rfl, rfl, rfl⟩ ?_
  generalize hm0 : mzs (fset (fset (fset (fset (fset m 1 0 w) 1 1 d) 1 2 l) 1 3 (w * d)) 1 4 (w * d * l)) [2, 3, 4, 5] = m0
  have hm0' : mz (mz (mz (mz (fset (fset (fset (fset (fset m 1 0 w) 1 1 d) 1 2 l) 1 3 (w * d)) 1 4 (w * d * l)) 2) 3) 4) 5 = m0 := hm0
  have f0 : m0 1 0 = w := by rw [← hm0]; rfl
  have f1 : m0 1 1 = d := by rw [← hm0]; rfl
  have f2 : m0 1 2 = l := by rw [← hm0]; rfl
  have f3 : m0 1 3 = w * d := by rw [← hm0]; rfl
  have f4 : m0 1 4 = w * d * l := by rw [← hm0]; rfl
  have ff : ∀ o, o ≠ 1 → o ≠ 2 → o ≠ 3 → o ≠ 4 → o ≠ 5 → m0 o = m o := by
    intro o h1 h2 h3 h4 h5
    rw [← hm0, mzs_ne (by simp [h2, h3, h4, h5])]
    unfold fset
    rw [k_mset_ne h1, k_mset_ne h1, k_mset_ne h1, k_mset_ne h1, k_mset_ne h1]
  have hfin : ∀ (L : KL) (m' : Mem), gP m0 w d l (w * d * l) m' → cW B M_X2_init p e { frames := 0 + 1, cells := 4, slots := 2916, locals := 40 * (0 + 1) } s mm args below meth c 4 2916 Qf ad0 (gS n ly 2 r0 1 2 (k_nulls 2)).length A (gS n ly 6 r0 1 2 [none, none, none, none, none, some 2, some 3, some 4, some 5]) (k_pc M_X2_init 42) L [] m' := by
    intro L m' hP
    refine hend _ _ _ (by decide +kernel) ⟨⟨?_, ?_, ?_, ?_, ?_, fun c hc => hP.2 c hc.1 hc.2⟩, fun o h1 h2 h3 h4 h5 => by rw [hP.1 o h2 h3 h4 h5]; exact ff o h1 h2 h3 h4 h5⟩
    · rw [hP.1 1 (by decide) (by decide) (by decide) (by decide)]; exact f0
    · rw [hP.1 1 (by decide) (by decide) (by decide) (by decide)]; exact f1
    · rw [hP.1 1 (by decide) (by decide) (by decide) (by decide)]; exact f2
    · rw [hP.1 1 (by decide) (by decide) (by decide) (by decide)]; exact f3
    · rw [hP.1 1 (by decide) (by decide) (by decide) (by decide)]; exact f4
  have loopx : ∀ (y z : Int), (0 ≤ y ∧ y < d) → (0 ≤ z ∧ z < l) → (∀ m', gP m0 w d l (ix w d 0 (y + 1) z) m' → cW B M_X2_init p e { frames := 0 + 1, cells := 4, slots := 2916, locals := 40 * (0 + 1) } s mm args below meth c 4 2916 Qf ad0 (gS n ly 2 r0 1 2 (k_nulls 2)).length A (gS n ly 6 r0 1 2 [none, none, none, none, none, some 2, some 3, some 4, some 5]) (k_pc M_X2_init 40) [some (vR 1), some (vI w), some (vI d), some (vI l), some (vI (ix w d 0 (y + 1) z)), some (vI z), some (vI y), some (vI w)] [] m') → ∀ (k : Nat) (x : Int) (m' : Mem), 0 ≤ x → x + k = w → gP m0 w d l (ix w d x y z) m' → cW B M_X2_init p e { frames := 0 + 1, cells := 4, slots := 2916, locals := 40 * (0 + 1) } s mm args below meth c 4 2916 Qf ad0 (gS n ly 2 r0 1 2 (k_nulls 2)).length A (gS n ly 6 r0 1 2 [none, none, none, none, none, some 2, some 3, some 4, some 5]) (k_pc M_X2_init 27) [some (vR 1), some (vI w), some (vI d), some (vI l), some (vI (ix w d x y z)), some (vI z), some (vI y), some (vI x)] [] m' := by
    intro y z hy hz hout k
    induction k with
    | zero =>
      intro x m' h0 h1 hP
      have : x = w := by omega
      subst this
      refine c_go hX ok_X2_init (Nat.le_of_ble_eq_true rfl) (Nat.le_of_ble_eq_true rfl) [25, 26, 27, 29, 31, 33, 35, 37, 39, 40, 41, 42] 5 27 ?_
      rw [ix_xw] at hP ⊢
      exact And.intro (fun _ => hout m' hP) (fun h2 => absurd h2 (by omega))
    | succ k ih =>
      intro x m' h0 h1 hP
      have hx : 0 ≤ x ∧ x < w := by omega
      have hin : inC w d l (ix w d x y z) := ix_in hx hy hz
      obtain ⟨hin1, hin2⟩ := hin
      have hcn : ix w d x y z < (n : Int) := by omega
      have hi1 : inR (ix w d x y z * 6) := by constructor <;> omega
      have hia : ∀ j : Int, 0 ≤ j → j < 6 → inR (ix w d x y z * 6 + j) := fun j j0 j1 => by constructor <;> omega
      have hib : ∀ j : Int, 0 ≤ j → j < 6 → 0 ≤ ix w d x y z * 6 + j ∧ ix w d x y z * 6 + j < ((n * 6 : Nat) : Int) := fun j j0 j1 => by constructor <;> omega
      obtain ⟨x0, x1, x2, x3, x4, x5⟩ := dXs
      obtain ⟨y0, y1, y2, y3, y4, y5⟩ := dYs
      obtain ⟨z0, z1, z2, z3, z4, z5⟩ := dZs
      have t39 : ∀ (v : Int) (m' : Mem), gQ m0 w d l (ix w d x y z) 5 m' → v = nx w d l (ix w d x y z) 5 → cW B M_X2_init p e { frames := 0 + 1, cells := 4, slots := 2916, locals := 40 * (0 + 1) } s mm args below meth c 4 2916 Qf ad0 (gS n ly 2 r0 1 2 (k_nulls 2)).length A (gS n ly 6 r0 1 2 [none, none, none, none, none, some 2, some 3, some 4, some 5]) (k_pc M_X2_init 39) [some (vR 1), some (vI w), some (vI d), some (vI l), some (vI (ix w d x y z)), some (vI z), some (vI y), some (vI x)] [vI v, vI (ix w d x y z * 6 + 5), vR 2] m' := by
        intro v m' hq hv
        have hq2 := gQ_6 (gQ_step (by omega) hq hv)
        refine c_go hX ok_X2_init (Nat.le_of_ble_eq_true rfl) (Nat.le_of_ble_eq_true rfl) [25, 26, 27, 29, 31, 33, 35, 37, 39, 40, 41, 42] 5 39 ?_
        refine ⟨hib 5 (by omega) (by omega), by constructor <;> omega, by constructor <;> omega, ?_⟩
        rw [ix_x1] at hq2
        have := ih (x + 1) _ (by omega) (by omega) hq2
        rw [← ix_x1] at this
        exact this
      have t37 : ∀ (v : Int) (m' : Mem), gQ m0 w d l (ix w d x y z) 4 m' → v = nx w d l (ix w d x y z) 4 → cW B M_X2_init p e { frames := 0 + 1, cells := 4, slots := 2916, locals := 40 * (0 + 1) } s mm args below meth c 4 2916 Qf ad0 (gS n ly 2 r0 1 2 (k_nulls 2)).length A (gS n ly 6 r0 1 2 [none, none, none, none, none, some 2, some 3, some 4, some 5]) (k_pc M_X2_init 37) [some (vR 1), some (vI w), some (vI d), some (vI l), some (vI (ix w d x y z)), some (vI z), some (vI y), some (vI x)] [vI v, vI (ix w d x y z * 6 + 4), vR 2] m' := by
        intro v m' hq hv
        have hq2 := gQ_step (by omega) hq hv
        generalize hm2 : mset m' 2 (ix w d x y z * 6 + 4) v = m2 at hq2
        have hfl : m2 1 3 = w * d := by rw [hq2.1.1 1 (by decide) (by decide) (by decide) (by decide)]; exact f3
        refine c_go hX ok_X2_init (Nat.le_of_ble_eq_true rfl) (Nat.le_of_ble_eq_true rfl) [25, 26, 27, 29, 31, 33, 35, 37, 39, 40, 41, 42] 5 37 ?_
        refine ⟨hib 4 (by omega) (by omega), hi1, hia 5 (by omega) (by omega), ?_⟩
        show (z ≤ 0 → cW B M_X2_init p e { frames := 0 + 1, cells := 4, slots := 2916, locals := 40 * (0 + 1) } s mm args below meth c 4 2916 Qf ad0 (gS n ly 2 r0 1 2 (k_nulls 2)).length A (gS n ly 6 r0 1 2 [none, none, none, none, none, some 2, some 3, some 4, some 5]) (k_pc M_X2_init 39) [some (vR 1), some (vI w), some (vI d), some (vI l), some (vI (ix w d x y z)), some (vI z), some (vI y), some (vI x)] [vI (-1), vI (ix w d x y z * 6 + 5), vR 2] (mset m' 2 (ix w d x y z * 6 + 4) v)) ∧ (0 < z → inR (ix w d x y z - mset m' 2 (ix w d x y z * 6 + 4) v 1 3) ∧ cW B M_X2_init p e { frames := 0 + 1, cells := 4, slots := 2916, locals := 40 * (0 + 1) } s mm args below meth c 4 2916 Qf ad0 (gS n ly 2 r0 1 2 (k_nulls 2)).length A (gS n ly 6 r0 1 2 [none, none, none, none, none, some 2, some 3, some 4, some 5]) (k_pc M_X2_init 39) [some (vR 1), some (vI w), some (vI d), some (vI l), some (vI (ix w d x y z)), some (vI z), some (vI y), some (vI x)] [vI (ix w d x y z - mset m' 2 (ix w d x y z * 6 + 4) v 1 3), vI (ix w d x y z * 6 + 5), vR 2] (mset m' 2 (ix w d x y z * 6 + 4) v))
        rw [hm2, hfl]
        refine ⟨fun h5 => t39 _ m2 hq2 (nx_no hx hy (by omega)), fun h5 => ⟨by constructor <;> omega, t39 _ m2 hq2 ?_⟩⟩
        have := nx_yes (k := 5) (z := z) (l := l) hx hy (by omega)
        rw [← this, x5, y5, z5]
        omega
      have t35 : ∀ (v : Int) (m' : Mem), gQ m0 w d l (ix w d x y z) 3 m' → v = nx w d l (ix w d x y z) 3 → cW B M_X2_init p e { frames := 0 + 1, cells := 4, slots := 2916, locals := 40 * (0 + 1) } s mm args below meth c 4 2916 Qf ad0 (gS n ly 2 r0 1 2 (k_nulls 2)).length A (gS n ly 6 r0 1 2 [none, none, none, none, none, some 2, some 3, some 4, some 5]) (k_pc M_X2_init 35) [some (vR 1), some (vI w), some (vI d), some (vI l), some (vI (ix w d x y z)), some (vI z), some (vI y), some (vI x)] [vI v, vI (ix w d x y z * 6 + 3), vR 2] m' := by
        intro v m' hq hv
        have hq2 := gQ_step (by omega) hq hv
        generalize hm2 : mset m' 2 (ix w d x y z * 6 + 3) v = m2 at hq2
        have hfl : m2 1 3 = w * d := by rw [hq2.1.1 1 (by decide) (by decide) (by decide) (by decide)]; exact f3
        refine c_go hX ok_X2_init (Nat.le_of_ble_eq_true rfl) (Nat.le_of_ble_eq_true rfl) [25, 26, 27, 29, 31, 33, 35, 37, 39, 40, 41, 42] 5 35 ?_
        refine ⟨hib 3 (by omega) (by omega), hi1, hia 4 (by omega) (by omega), by constructor <;> omega, ?_⟩
        show (l ≤ z + 1 → cW B M_X2_init p e { frames := 0 + 1, cells := 4, slots := 2916, locals := 40 * (0 + 1) } s mm args below meth c 4 2916 Qf ad0 (gS n ly 2 r0 1 2 (k_nulls 2)).length A (gS n ly 6 r0 1 2 [none, none, none, none, none, some 2, some 3, some 4, some 5]) (k_pc M_X2_init 37) [some (vR 1), some (vI w), some (vI d), some (vI l), some (vI (ix w d x y z)), some (vI z), some (vI y), some (vI x)] [vI (-1), vI (ix w d x y z * 6 + 4), vR 2] (mset m' 2 (ix w d x y z * 6 + 3) v)) ∧ (z + 1 < l → inR (ix w d x y z + mset m' 2 (ix w d x y z * 6 + 3) v 1 3) ∧ cW B M_X2_init p e { frames := 0 + 1, cells := 4, slots := 2916, locals := 40 * (0 + 1) } s mm args below meth c 4 2916 Qf ad0 (gS n ly 2 r0 1 2 (k_nulls 2)).length A (gS n ly 6 r0 1 2 [none, none, none, none, none, some 2, some 3, some 4, some 5]) (k_pc M_X2_init 37) [some (vR 1), some (vI w), some (vI d), some (vI l), some (vI (ix w d x y z)), some (vI z), some (vI y), some (vI x)] [vI (ix w d x y z + mset m' 2 (ix w d x y z * 6 + 3) v 1 3), vI (ix w d x y z * 6 + 4), vR 2] (mset m' 2 (ix w d x y z * 6 + 3) v))
        rw [hm2, hfl]
        refine ⟨fun h5 => t37 _ m2 hq2 (nx_no hx hy (by omega)), fun h5 => ⟨by constructor <;> omega, t37 _ m2 hq2 ?_⟩⟩
        have := nx_yes (k := 4) (z := z) (l := l) hx hy (by omega)
        rw [← this, x4, y4, z4]
        omega
      have t33 : ∀ (v : Int) (m' : Mem), gQ m0 w d l (ix w d x y z) 2 m' → v = nx w d l (ix w d x y z) 2 → cW B M_X2_init p e { frames := 0 + 1, cells := 4, slots := 2916, locals := 40 * (0 + 1) } s mm args below meth c 4 2916 Qf ad0 (gS n ly 2 r0 1 2 (k_nulls 2)).length A (gS n ly 6 r0 1 2 [none, none, none, none, none, some 2, some 3, some 4, some 5]) (k_pc M_X2_init 33) [some (vR 1), some (vI w), some (vI d), some (vI l), some (vI (ix w d x y z)), some (vI z), some (vI y), some (vI x)] [vI v, vI (ix w d x y z * 6 + 2), vR 2] m' := by
        intro v m' hq hv
        have hq2 := gQ_step (by omega) hq hv
        generalize hm2 : mset m' 2 (ix w d x y z * 6 + 2) v = m2 at hq2
        have hfl : m2 1 3 = w * d := by rw [hq2.1.1 1 (by decide) (by decide) (by decide) (by decide)]; exact f3
        refine c_go hX ok_X2_init (Nat.le_of_ble_eq_true rfl) (Nat.le_of_ble_eq_true rfl) [25, 26, 27, 29, 31, 33, 35, 37, 39, 40, 41, 42] 5 33 ?_
        refine ⟨hib 2 (by omega) (by omega), hi1, hia 3 (by omega) (by omega), ?_⟩
        show (x ≤ 0 → cW B M_X2_init p e { frames := 0 + 1, cells := 4, slots := 2916, locals := 40 * (0 + 1) } s mm args below meth c 4 2916 Qf ad0 (gS n ly 2 r0 1 2 (k_nulls 2)).length A (gS n ly 6 r0 1 2 [none, none, none, none, none, some 2, some 3, some 4, some 5]) (k_pc M_X2_init 35) [some (vR 1), some (vI w), some (vI d), some (vI l), some (vI (ix w d x y z)), some (vI z), some (vI y), some (vI x)] [vI (-1), vI (ix w d x y z * 6 + 3), vR 2] (mset m' 2 (ix w d x y z * 6 + 2) v)) ∧ (0 < x → inR (ix w d x y z - 1) ∧ cW B M_X2_init p e { frames := 0 + 1, cells := 4, slots := 2916, locals := 40 * (0 + 1) } s mm args below meth c 4 2916 Qf ad0 (gS n ly 2 r0 1 2 (k_nulls 2)).length A (gS n ly 6 r0 1 2 [none, none, none, none, none, some 2, some 3, some 4, some 5]) (k_pc M_X2_init 35) [some (vR 1), some (vI w), some (vI d), some (vI l), some (vI (ix w d x y z)), some (vI z), some (vI y), some (vI x)] [vI (ix w d x y z - 1), vI (ix w d x y z * 6 + 3), vR 2] (mset m' 2 (ix w d x y z * 6 + 2) v))
        rw [hm2]
        refine ⟨fun h5 => t35 _ m2 hq2 (nx_no hx hy (by omega)), fun h5 => ⟨by constructor <;> omega, t35 _ m2 hq2 ?_⟩⟩
        have := nx_yes (k := 3) (z := z) (l := l) hx hy (by omega)
        rw [← this, x3, y3, z3]
        omega
      have t31 : ∀ (v : Int) (m' : Mem), gQ m0 w d l (ix w d x y z) 1 m' → v = nx w d l (ix w d x y z) 1 → cW B M_X2_init p e { frames := 0 + 1, cells := 4, slots := 2916, locals := 40 * (0 + 1) } s mm args below meth c 4 2916 Qf ad0 (gS n ly 2 r0 1 2 (k_nulls 2)).length A (gS n ly 6 r0 1 2 [none, none, none, none, none, some 2, some 3, some 4, some 5]) (k_pc M_X2_init 31) [some (vR 1), some (vI w), some (vI d), some (vI l), some (vI (ix w d x y z)), some (vI z), some (vI y), some (vI x)] [vI v, vI (ix w d x y z * 6 + 1), vR 2] m' := by
        intro v m' hq hv
        have hq2 := gQ_step (by omega) hq hv
        generalize hm2 : mset m' 2 (ix w d x y z * 6 + 1) v = m2 at hq2
        have hfl : m2 1 3 = w * d := by rw [hq2.1.1 1 (by decide) (by decide) (by decide) (by decide)]; exact f3
        refine c_go hX ok_X2_init (Nat.le_of_ble_eq_true rfl) (Nat.le_of_ble_eq_true rfl) [25, 26, 27, 29, 31, 33, 35, 37, 39, 40, 41, 42] 5 31 ?_
        refine ⟨hib 1 (by omega) (by omega), hi1, hia 2 (by omega) (by omega), by constructor <;> omega, ?_⟩
        show (d ≤ y + 1 → cW B M_X2_init p e { frames := 0 + 1, cells := 4, slots := 2916, locals := 40 * (0 + 1) } s mm args below meth c 4 2916 Qf ad0 (gS n ly 2 r0 1 2 (k_nulls 2)).length A (gS n ly 6 r0 1 2 [none, none, none, none, none, some 2, some 3, some 4, some 5]) (k_pc M_X2_init 33) [some (vR 1), some (vI w), some (vI d), some (vI l), some (vI (ix w d x y z)), some (vI z), some (vI y), some (vI x)] [vI (-1), vI (ix w d x y z * 6 + 2), vR 2] (mset m' 2 (ix w d x y z * 6 + 1) v)) ∧ (y + 1 < d → inR (ix w d x y z + w) ∧ cW B M_X2_init p e { frames := 0 + 1, cells := 4, slots := 2916, locals := 40 * (0 + 1) } s mm args below meth c 4 2916 Qf ad0 (gS n ly 2 r0 1 2 (k_nulls 2)).length A (gS n ly 6 r0 1 2 [none, none, none, none, none, some 2, some 3, some 4, some 5]) (k_pc M_X2_init 33) [some (vR 1), some (vI w), some (vI d), some (vI l), some (vI (ix w d x y z)), some (vI z), some (vI y), some (vI x)] [vI (ix w d x y z + w), vI (ix w d x y z * 6 + 2), vR 2] (mset m' 2 (ix w d x y z * 6 + 1) v))
        rw [hm2]
        refine ⟨fun h5 => t33 _ m2 hq2 (nx_no hx hy (by omega)), fun h5 => ⟨by constructor <;> omega, t33 _ m2 hq2 ?_⟩⟩
        have := nx_yes (k := 2) (z := z) (l := l) hx hy (by omega)
        rw [← this, x2, y2, z2]
        omega
      have t29 : ∀ (v : Int) (m' : Mem), gQ m0 w d l (ix w d x y z) 0 m' → v = nx w d l (ix w d x y z) 0 → cW B M_X2_init p e { frames := 0 + 1, cells := 4, slots := 2916, locals := 40 * (0 + 1) } s mm args below meth c 4 2916 Qf ad0 (gS n ly 2 r0 1 2 (k_nulls 2)).length A (gS n ly 6 r0 1 2 [none, none, none, none, none, some 2, some 3, some 4, some 5]) (k_pc M_X2_init 29) [some (vR 1), some (vI w), some (vI d), some (vI l), some (vI (ix w d x y z)), some (vI z), some (vI y), some (vI x)] [vI v, vI (ix w d x y z * 6), vR 2] m' := by
        intro v m' hq hv
        have hq2 := gQ_step (by omega) hq hv
        rw [Int.add_zero] at hq2
        generalize hm2 : mset m' 2 (ix w d x y z * 6) v = m2 at hq2
        have hfl : m2 1 3 = w * d := by rw [hq2.1.1 1 (by decide) (by decide) (by decide) (by decide)]; exact f3
        refine c_go hX ok_X2_init (Nat.le_of_ble_eq_true rfl) (Nat.le_of_ble_eq_true rfl) [25, 26, 27, 29, 31, 33, 35, 37, 39, 40, 41, 42] 5 29 ?_
        refine ⟨by have := hib 0 (by omega) (by omega); omega, hi1, hia 1 (by omega) (by omega), by constructor <;> omega, ?_⟩
        show (w ≤ x + 1 → cW B M_X2_init p e { frames := 0 + 1, cells := 4, slots := 2916, locals := 40 * (0 + 1) } s mm args below meth c 4 2916 Qf ad0 (gS n ly 2 r0 1 2 (k_nulls 2)).length A (gS n ly 6 r0 1 2 [none, none, none, none, none, some 2, some 3, some 4, some 5]) (k_pc M_X2_init 31) [some (vR 1), some (vI w), some (vI d), some (vI l), some (vI (ix w d x y z)), some (vI z), some (vI y), some (vI x)] [vI (-1), vI (ix w d x y z * 6 + 1), vR 2] (mset m' 2 (ix w d x y z * 6) v)) ∧ (x + 1 < w → inR (ix w d x y z + 1) ∧ cW B M_X2_init p e { frames := 0 + 1, cells := 4, slots := 2916, locals := 40 * (0 + 1) } s mm args below meth c 4 2916 Qf ad0 (gS n ly 2 r0 1 2 (k_nulls 2)).length A (gS n ly 6 r0 1 2 [none, none, none, none, none, some 2, some 3, some 4, some 5]) (k_pc M_X2_init 31) [some (vR 1), some (vI w), some (vI d), some (vI l), some (vI (ix w d x y z)), some (vI z), some (vI y), some (vI x)] [vI (ix w d x y z + 1), vI (ix w d x y z * 6 + 1), vR 2] (mset m' 2 (ix w d x y z * 6) v))
        rw [hm2]
        refine ⟨fun h5 => t31 _ m2 hq2 (nx_no hx hy (by omega)), fun h5 => ⟨by constructor <;> omega, t31 _ m2 hq2 ?_⟩⟩
        have := nx_yes (k := 1) (z := z) (l := l) hx hy (by omega)
        rw [← this, x1, y1, z1]
        omega
      have hq := gP_0 hx hy hP
      generalize hm2 : mset (mset (mset m' 3 (ix w d x y z) x) 4 (ix w d x y z) y) 5 (ix w d x y z) z = m2 at hq
      refine c_go hX ok_X2_init (Nat.le_of_ble_eq_true rfl) (Nat.le_of_ble_eq_true rfl) [25, 26, 27, 29, 31, 33, 35, 37, 39, 40, 41, 42] 5 27 ?_
      refine And.intro (fun h5 => absurd h5 (by omega)) (fun _ => ⟨⟨hin1, hcn⟩, ⟨hin1, hcn⟩, ⟨hin1, hcn⟩, hi1, ?_⟩)
      show (y ≤ 0 → cW B M_X2_init p e { frames := 0 + 1, cells := 4, slots := 2916, locals := 40 * (0 + 1) } s mm args below meth c 4 2916 Qf ad0 (gS n ly 2 r0 1 2 (k_nulls 2)).length A (gS n ly 6 r0 1 2 [none, none, none, none, none, some 2, some 3, some 4, some 5]) (k_pc M_X2_init 29) [some (vR 1), some (vI w), some (vI d), some (vI l), some (vI (ix w d x y z)), some (vI z), some (vI y), some (vI x)] [vI (-1), vI (ix w d x y z * 6), vR 2] (mset (mset (mset m' 3 (ix w d x y z) x) 4 (ix w d x y z) y) 5 (ix w d x y z) z)) ∧ (0 < y → inR (ix w d x y z - w) ∧ cW B M_X2_init p e { frames := 0 + 1, cells := 4, slots := 2916, locals := 40 * (0 + 1) } s mm args below meth c 4 2916 Qf ad0 (gS n ly 2 r0 1 2 (k_nulls 2)).length A (gS n ly 6 r0 1 2 [none, none, none, none, none, some 2, some 3, some 4, some 5]) (k_pc M_X2_init 29) [some (vR 1), some (vI w), some (vI d), some (vI l), some (vI (ix w d x y z)), some (vI z), some (vI y), some (vI x)] [vI (ix w d x y z - w), vI (ix w d x y z * 6), vR 2] (mset (mset (mset m' 3 (ix w d x y z) x) 4 (ix w d x y z) y) 5 (ix w d x y z) z))
      rw [hm2]
      refine ⟨fun h5 => t29 _ m2 hq (nx_no hx hy (by omega)), fun h5 => ⟨by constructor <;> omega, t29 _ m2 hq ?_⟩⟩
      have := nx_yes (k := 0) (z := z) (l := l) hx hy (by omega)
      rw [← this, x0, y0, z0]
      omega
  have loopy : ∀ (z : Int), (0 ≤ z ∧ z < l) → (∀ (m' : Mem) (x7 : Option AV), gP m0 w d l (ix w d 0 0 (z + 1)) m' → cW B M_X2_init p e { frames := 0 + 1, cells := 4, slots := 2916, locals := 40 * (0 + 1) } s mm args below meth c 4 2916 Qf ad0 (gS n ly 2 r0 1 2 (k_nulls 2)).length A (gS n ly 6 r0 1 2 [none, none, none, none, none, some 2, some 3, some 4, some 5]) (k_pc M_X2_init 41) [some (vR 1), some (vI w), some (vI d), some (vI l), some (vI (ix w d 0 0 (z + 1))), some (vI z), some (vI d), x7] [] m') → ∀ (k : Nat) (y : Int) (m' : Mem) (x7 : Option AV), 0 ≤ y → y + k = d → gP m0 w d l (ix w d 0 y z) m' → cW B M_X2_init p e { frames := 0 + 1, cells := 4, slots := 2916, locals := 40 * (0 + 1) } s mm args below meth c 4 2916 Qf ad0 (gS n ly 2 r0 1 2 (k_nulls 2)).length A (gS n ly 6 r0 1 2 [none, none, none, none, none, some 2, some 3, some 4, some 5]) (k_pc M_X2_init 26) [some (vR 1), some (vI w), some (vI d), some (vI l), some (vI (ix w d 0 y z)), some (vI z), some (vI y), x7] [] m' := by
    intro z hz hout k
    induction k with
    | zero =>
      intro y m' x7 h0 h1 hP
      have : y = d := by omega
      subst this
      refine c_go hX ok_X2_init (Nat.le_of_ble_eq_true rfl) (Nat.le_of_ble_eq_true rfl) [25, 26, 27, 29, 31, 33, 35, 37, 39, 40, 41, 42] 5 26 ?_
      rw [ix_yd] at hP ⊢
      exact And.intro (fun _ => hout m' x7 hP) (fun h2 => absurd h2 (by omega))
    | succ k ih =>
      intro y m' x7 h0 h1 hP
      refine c_go hX ok_X2_init (Nat.le_of_ble_eq_true rfl) (Nat.le_of_ble_eq_true rfl) [25, 26, 27, 29, 31, 33, 35, 37, 39, 40, 41, 42] 5 26 ?_
      refine And.intro (fun h2 => absurd h2 (by omega)) (fun _ => ?_)
      refine loopx y z ⟨h0, by omega⟩ hz (fun m2 hP2 => ?_) w.toNat 0 m' (by omega) (by omega) hP
      refine c_go hX ok_X2_init (Nat.le_of_ble_eq_true rfl) (Nat.le_of_ble_eq_true rfl) [25, 26, 27, 29, 31, 33, 35, 37, 39, 40, 41, 42] 5 40 ?_
      exact ⟨by constructor <;> omega, ih (y + 1) m2 _ (by omega) (by omega) hP2⟩
  have loopz : ∀ (k : Nat) (z : Int) (m' : Mem) (x6 x7 : Option AV), 0 ≤ z → z + k = l → gP m0 w d l (ix w d 0 0 z) m' → cW B M_X2_init p e { frames := 0 + 1, cells := 4, slots := 2916, locals := 40 * (0 + 1) } s mm args below meth c 4 2916 Qf ad0 (gS n ly 2 r0 1 2 (k_nulls 2)).length A (gS n ly 6 r0 1 2 [none, none, none, none, none, some 2, some 3, some 4, some 5]) (k_pc M_X2_init 25) [some (vR 1), some (vI w), some (vI d), some (vI l), some (vI (ix w d 0 0 z)), some (vI z), x6, x7] [] m' := by
    intro k
    induction k with
    | zero =>
      intro z m' x6 x7 h0 h1 hP
      have : z = l := by omega
      subst this
      refine c_go hX ok_X2_init (Nat.le_of_ble_eq_true rfl) (Nat.le_of_ble_eq_true rfl) [25, 26, 27, 29, 31, 33, 35, 37, 39, 40, 41, 42] 5 25 ?_
      refine And.intro (fun _ => hfin _ m' ?_) (fun h2 => absurd h2 (by omega))
      have : ix w d 0 0 z = w * d * z := by unfold ix; rw [Int.mul_comm z (w * d)]; omega
      rw [← this]
      exact hP
    | succ k ih =>
      intro z m' x6 x7 h0 h1 hP
      refine c_go hX ok_X2_init (Nat.le_of_ble_eq_true rfl) (Nat.le_of_ble_eq_true rfl) [25, 26, 27, 29, 31, 33, 35, 37, 39, 40, 41, 42] 5 25 ?_
      refine And.intro (fun h2 => absurd h2 (by omega)) (fun _ => ?_)
      refine loopy z ⟨h0, by omega⟩ (fun m2 x7 hP2 => ?_) d.toNat 0 m' _ (by omega) (by omega) hP
      refine c_go hX ok_X2_init (Nat.le_of_ble_eq_true rfl) (Nat.le_of_ble_eq_true rfl) [25, 26, 27, 29, 31, 33, 35, 37, 39, 40, 41, 42] 5 41 ?_
      exact ⟨by constructor <;> omega, ih (z + 1) m2 _ _ (by omega) (by omega) hP2⟩
  have hfirst := loopz l.toNat 0 m0 none none (by omega) (by omega) ⟨fun _ _ _ _ _ => rfl, fun c c0 c1 => absurd c1 (by unfold ix; omega)⟩
  have hz0 : ix w d 0 0 0 = 0 := by unfold ix; omega
  rw [hz0, ← hm0'] at hfirst
  exact hfirst
end
section
/-! the root's constructor -/
theorem k_def_ok : ∀ ci, ci ≤ 12 → ∀ k, k < k_nf ci → defaultValue (k_ty ci k) = (if k_tc (k_ty ci k) = 1 then .null else .int 0) := by
  intro ci hci
  match ci, hci with
  | 0, _ => exact (by decide +kernel)
  | 1, _ => exact (by decide +kernel)
  | 2, _ => exact (by decide +kernel)
  | 3, _ => exact (by decide +kernel)
  | 4, _ => exact (by decide +kernel)
  | 5, _ => exact (by decide +kernel)
  | 6, _ => exact (by decide +kernel)
  | 7, _ => exact (by decide +kernel)
  | 8, _ => exact (by decide +kernel)
  | 9, _ => exact (by decide +kernel)
  | 10, _ => exact (by decide +kernel)
  | 11, _ => exact (by decide +kernel)
  | 12, _ => exact (by decide +kernel)
theorem c_X11_within (E : Ev) (m : Mem) (v lo hi : Int) : kCall E 1 M_X11_within.1 [vI v, vI lo, vI hi] m (cP (max lo (min hi v)) m) := by
  refine kCall_of ok_X11_within rfl (Nat.le_of_ble_eq_true rfl) ?_
  refine kW_go ok_X11_within [] 10 ?_
  exact ⟨rfl, rfl⟩
/-- the class's objects as they are made, up to the object k -/
def bS (w d l : Int) (ms : Mem) (k : Nat) (m : Mem) : Prop := gridC m w d l ∧ m 6 0 = l ∧ (∀ j, j ≠ 0 → m 6 j = 0) ∧ (∀ o, 7 ≤ o → o < k → o ≠ 41 → o ≠ 47 → ∀ i, m o i = 0) ∧
  (41 < k → (∀ j : Nat, j < 32 → bt (m 41 7) j = decide ((j : Int) < min (w * d * l) 24 ∧ 0 < m 3 j)) ∧ (∀ j : Nat, j < 32 → bt (m 41 8) j = decide ((j : Int) < min (w * d * l) 24 ∧ m 3 j < w - 1)) ∧ (∀ j : Nat, j < 32 → bt (m 41 9) j = decide ((j : Int) < min (w * d * l) 24 ∧ 0 < m 4 j)) ∧ (∀ j : Nat, j < 32 → bt (m 41 10) j = decide ((j : Int) < min (w * d * l) 24 ∧ m 4 j < d - 1))) ∧
  (47 < k → m 47 0 = 0 ∧ ∀ j, 1 ≤ j → j ≤ l → m 47 j = 1) ∧ ∀ o, 54 ≤ o → m o = ms o
theorem gridC_same {w d l : Int} {m m' : Mem} (h : gridC m w d l) (hs : ∀ o, 1 ≤ o → o ≤ 5 → m' o = m o) : gridC m' w d l := by
  unfold gridC
  rw [hs 1 (by decide) (by decide), hs 2 (by decide) (by decide), hs 3 (by decide) (by decide), hs 4 (by decide) (by decide), hs 5 (by decide) (by decide)]
  exact h
theorem bS_same {w d l : Int} {ms m m' : Mem} {k k' : Nat} (h : bS w d l ms k m) (hk : 7 ≤ k) (hkk : k ≤ k') (hs : ∀ o, o < k → m' o = m o) (hg : ∀ o, 54 ≤ o → m' o = m o) (hz : ∀ o, k ≤ o → o < k' → o ≠ 41 → o ≠ 47 → ∀ i, m' o i = 0) (h41 : 41 < k' → 41 < k) (h47 : 47 < k' → 47 < k) : bS w d l ms k' m' := by
  obtain ⟨h1, h2, h3, h4, h5, h6, h7⟩ := h
  refine ⟨gridC_same h1 (fun o _ o2 => hs o (by omega)), by rw [hs 6 (by omega)]; exact h2, by rw [hs 6 (by omega)]; exact h3, fun o o1 o2 o3 o4 i => ?_, fun hh => ?_, fun hh => ?_, fun o ho => by rw [hg o ho]; exact h7 o ho⟩
  · by_cases ho : o < k
    · rw [hs o ho]; exact h4 o o1 ho o3 o4 i
    · exact hz o (by omega) o2 o3 o4 i
  · rw [hs 41 (h41 hh), hs 3 (by omega), hs 4 (by omega)]
    exact h5 (h41 hh)
  · rw [hs 47 (h47 hh)]
    exact h6 (h47 hh)
theorem bS_mzs {w d l : Int} {ms m : Mem} {k k' : Nat} {os : List Nat} (h : bS w d l ms k m) (hk : 7 ≤ k) (hkk : k ≤ k') (h1 : ∀ o ∈ os, k ≤ o ∧ o < 54) (h2 : ∀ o, k ≤ o → o < k' → o ∈ os) (h41 : 41 < k' → 41 < k) (h47 : 47 < k' → 47 < k) : bS w d l ms k' (mzs m os) :=
  bS_same h hk hkk (fun o ho => mzs_ne (fun hm => by have := (h1 o hm).1; omega)) (fun o ho => mzs_ne (fun hm => by have := (h1 o hm).2; omega)) (fun o o1 o2 _ _ i => mzs_at i (h2 o o1 o2)) h41 h47
set_option maxHeartbeats 4000000 in
set_option maxRecDepth 100000 in
theorem n_X11_init (B : Bs) (n ly : Nat) (m : Mem) (a b c w d l : Int) (hw : max 2 (min 9 a) = w) (hd : max 2 (min 9 b) = d) (hl : max 1 (min 4 c) = l) (hc : w * d * l = (n : Int)) (hly : l = (ly : Int)) : kNew B 3 M_X11_init.1 [vR 0, vI a, vI b, vI c] [.inl (11, k_nulls 11)] ((G0 n ly).take 54) m 53 22318 (fun m' => bS w d l m 54 m') := by
  have hD : okD w d l := by refine ⟨by omega, by omega, by omega⟩
  have hcc := okD_cells hD
  have hn : n ≤ 324 := by omega
  have hwr : 2 ≤ w ∧ w ≤ 9 := hD.1
  have hdr : 2 ≤ d ∧ d ≤ 9 := hD.2.1
  have hlr : 1 ≤ l ∧ l ≤ 4 := hD.2.2
  refine c_start ok_X11_init rfl rfl rfl (Nat.le_of_ble_eq_true rfl) (fun p e s mm args below meth c0 Qf ad0 A hX hin hend => ?_)
  refine c_seg hX ok_X11_init (Nat.le_of_ble_eq_true rfl) (Nat.le_of_ble_eq_true rfl) 0 ⟨_, rfl, rfl, rfl, rfl, rfl⟩ ?_
  refine c_obj hX (idx := 1) (pos := 167) (by decide +kernel) (by decide +kernel) rfl rfl rfl ?_
  refine c_seg hX ok_X11_init (Nat.le_of_ble_eq_true rfl) (Nat.le_of_ble_eq_true rfl) 2 ⟨_, rfl, rfl, rfl, rfl, rfl⟩ ?_
  refine c_new hX (idx := 7) (ci := 2) (o := 1) (cells' := 1) (slots' := 9) (G' := gS n ly 2 [none, none, none, none, none, none, none, none, none, none, none] 1 2 (k_nulls 2)) 170 171 141 (by decide +kernel) (by decide +kernel) (by decide +kernel) (by decide +kernel) rfl (k_def_ok 2 (by decide)) rfl rfl rfl rfl rfl (Nat.le_of_ble_eq_true rfl) (Nat.le_of_ble_eq_true rfl) (Nat.le_refl _) (Nat.le_refl _) ?_
  refine c_seg hX ok_X11_init (Nat.le_of_ble_eq_true rfl) (Nat.le_of_ble_eq_true rfl) 4 (b1 := 5) (L1 := [some (vR 0), some (vI a), some (vI b), some (vI c)]) (S1 := [vI l, vI d, vI w, vR 1, vR 1, vR 0]) (m1 := mz m 1) ⟨_, rfl, ?_⟩ ?_
  · refine kCall_mono (c_X11_within _ _ a 2 9) (Nat.le_of_ble_eq_true rfl) ?_
    rintro _ _ ⟨rfl, rfl⟩
    refine kCall_mono (c_X11_within _ _ b 2 9) (Nat.le_of_ble_eq_true rfl) ?_
    rintro _ _ ⟨rfl, rfl⟩
    refine kCall_mono (c_X11_within _ _ c 1 4) (Nat.le_of_ble_eq_true rfl) ?_
    rintro _ _ ⟨rfl, rfl⟩
    rw [hw, hd, hl]
    exact ⟨rfl, rfl, rfl, rfl⟩
  refine c_init hX (j := 15) (n := 28) (na := 3) (o := 1) (h2 := 1) (cells' := 5) (slots' := 2925) (G' := gS n ly 6 [none, none, none, none, none, none, none, none, none, none, none] 1 2 [none, none, none, none, none, some 2, some 3, some 4, some 5]) (xs := [vI w, vI d, vI l]) (S' := [vR 1, vR 0]) _ rfl (by decide +kernel) rfl rfl (by decide +kernel) (by decide +kernel) rfl rfl rfl rfl (Nat.le_of_ble_eq_true rfl) (Nat.le_of_ble_eq_true rfl) (Nat.le_of_ble_eq_true rfl) (Nat.le_refl _) (Nat.le_refl _) (n_X2_init B n ly _ _ w d l hD hc) (fun m1 hm1 => ?_)
  obtain ⟨hg1, hf1⟩ := hm1
  refine c_putR hX hin (idx := 18) (ci := 11) (k := 0) (o := 0) (q := 1) (rs := [none, none, none, none, none, none, none, none, none, none, none]) (rs' := [some 1, none, none, none, none, none, none, none, none, none, none]) (G' := gS n ly 6 [some 1, none, none, none, none, none, none, none, none, none, none] 1 2 [none, none, none, none, none, some 2, some 3, some 4, some 5]) (by decide +kernel) (by decide +kernel) rfl rfl rfl (fun _ => ⟨rfl, rfl⟩) rfl rfl rfl rfl ?_
  refine c_seg hX ok_X11_init (Nat.le_of_ble_eq_true rfl) (Nat.le_of_ble_eq_true rfl) 7 ⟨_, rfl, rfl, rfl, rfl, rfl⟩ ?_
  refine c_new hX (idx := 22) (ci := 8) (o := 6) (cells' := 6) (slots' := 2931) (G' := gS n ly 7 [some 1, none, none, none, none, none, none, none, none, none, none] 6 8 (k_nulls 8)) 254 255 143 (by decide +kernel) (by decide +kernel) (by decide +kernel) (by decide +kernel) rfl (k_def_ok 8 (by decide)) rfl rfl rfl rfl rfl (Nat.le_of_ble_eq_true rfl) (Nat.le_of_ble_eq_true rfl) (Nat.le_refl _) (Nat.le_refl _) ?_
  refine c_seg hX ok_X11_init (Nat.le_of_ble_eq_true rfl) (Nat.le_of_ble_eq_true rfl) 9 (S1 := [vI l, vR 6, vR 6, vR 0]) ⟨_, rfl, rfl, rfl, by show [vI (mz m1 6 1 2), _, _, _] = _; rw [show mz m1 6 1 2 = l from hg1.2.2.1], rfl⟩ ?_
  refine c_init hX (j := 28) (n := 101) (na := 1) (o := 6) (h2 := 1) (cells' := 8) (slots' := 3016) (G' := gS n ly 9 [some 1, none, none, none, none, none, none, none, none, none, none] 6 8 [none, some 7, some 8, none, none, none]) (xs := [vI l]) (S' := [vR 6, vR 0]) _ rfl (by decide +kernel) rfl rfl (by decide +kernel) (by decide +kernel) rfl rfl rfl rfl (Nat.le_of_ble_eq_true rfl) (Nat.le_of_ble_eq_true rfl) (Nat.le_of_ble_eq_true rfl) (Nat.le_refl _) (Nat.le_refl _) (n_X8_init B n ly _ _ l) (fun m2 hm2 => ?_)
  have hb : bS w d l m 9 m2 := by
    have hs : ∀ o, o ≠ 6 → o ≠ 7 → o ≠ 8 → m2 o = m1 o := by
      intro o h6 h7 h8
      rw [hm2]
      unfold fset
      rw [k_mset_ne h6, mzs_ne (by simp [h7, h8]), mz_ne h6]
    refine ⟨gridC_same hg1 (fun o o1 o2 => hs o (by omega) (by omega) (by omega)), by rw [hm2]; rfl, fun j hj => ?_, fun o o1 o2 _ _ i => ?_, fun h => absurd h (by omega), fun h => absurd h (by omega), fun o ho => by rw [hs o (by omega) (by omega) (by omega), hf1 o (by omega) (by omega) (by omega) (by omega) (by omega), mz_ne (by omega)]⟩
    · rw [hm2]
      unfold fset
      rw [k_mset_at]
      refine (if_neg hj).trans ?_
      rw [mzs_ne (by decide), mz_at]
    · rw [hm2]
      unfold fset
      rw [k_mset_ne (by omega)]
      exact mzs_at i (by simp; omega)
  clear hm2 hg1 hf1
  refine c_putR hX hin (idx := 31) (ci := 11) (k := 1) (o := 0) (q := 6) (rs := [some 1, none, none, none, none, none, none, none, none, none, none]) (rs' := [some 1, some 6, none, none, none, none, none, none, none, none, none]) (G' := gS n ly 9 [some 1, some 6, none, none, none, none, none, none, none, none, none] 6 8 [none, some 7, some 8, none, none, none]) (by decide +kernel) (by decide +kernel) rfl rfl rfl (fun _ => ⟨rfl, rfl⟩) rfl rfl rfl rfl ?_
  refine c_seg hX ok_X11_init (Nat.le_of_ble_eq_true rfl) (Nat.le_of_ble_eq_true rfl) 12 ⟨_, rfl, rfl, rfl, rfl, rfl⟩ ?_
  refine c_new hX (idx := 35) (ci := 3) (o := 9) (cells' := 9) (slots' := 3031) (G' := gS n ly 10 [some 1, some 6, none, none, none, none, none, none, none, none, none] 9 3 (k_nulls 3)) 281 282 144 (by decide +kernel) (by decide +kernel) (by decide +kernel) (by decide +kernel) rfl (k_def_ok 3 (by decide)) rfl rfl rfl rfl rfl (Nat.le_of_ble_eq_true rfl) (Nat.le_of_ble_eq_true rfl) (Nat.le_refl _) (Nat.le_refl _) ?_
  refine c_seg hX ok_X11_init (Nat.le_of_ble_eq_true rfl) (Nat.le_of_ble_eq_true rfl) 14 ⟨_, rfl, rfl, rfl, rfl, rfl⟩ ?_
  refine c_init hX (j := 37) (n := 31) (na := 1) (o := 9) (h2 := 1) (cells' := 21) (slots' := 12189) (G' := gS n ly 22 [some 1, some 6, none, none, none, none, none, none, none, none, none] 9 3 [some 1, some 10, some 11, some 12, some 13, some 14, some 15, some 16, some 17, some 18, some 19, some 20, some 21, none, none]) (xs := [vR 1]) (S' := [vR 9, vR 0]) _ rfl (by decide +kernel) rfl rfl (by decide +kernel) (by decide +kernel) rfl rfl rfl rfl (Nat.le_of_ble_eq_true rfl) (Nat.le_of_ble_eq_true rfl) (Nat.le_of_ble_eq_true rfl) (Nat.le_refl _) (Nat.le_refl _) (n_X3_init B n ly hn _ _ (show _ = (n : Int) from hb.1.2.2.2.2.1.trans hc)) (fun m3 hm3 => ?_)
  have hb2 : bS w d l m 22 m3 := by
    rw [hm3]
    exact bS_mzs (os := [9, 10, 11, 12, 13, 14, 15, 16, 17, 18, 19, 20, 21]) hb (by decide) (by decide) (by decide) (fun o o1 o2 => by simp; omega) (by decide) (by decide)
  clear hm3 hb
  have hb := hb2
  clear hb2
  refine c_putR hX hin (idx := 40) (ci := 11) (k := 2) (o := 0) (q := 9) (rs := [some 1, some 6, none, none, none, none, none, none, none, none, none]) (rs' := [some 1, some 6, some 9, none, none, none, none, none, none, none, none]) (G' := gS n ly 22 [some 1, some 6, some 9, none, none, none, none, none, none, none, none] 9 3 [some 1, some 10, some 11, some 12, some 13, some 14, some 15, some 16, some 17, some 18, some 19, some 20, some 21, none, none]) (by decide +kernel) (by decide +kernel) rfl rfl rfl (fun _ => ⟨rfl, rfl⟩) rfl rfl rfl rfl ?_
  refine c_seg hX ok_X11_init (Nat.le_of_ble_eq_true rfl) (Nat.le_of_ble_eq_true rfl) 17 ⟨_, rfl, rfl, rfl, rfl, rfl⟩ ?_
  refine c_new hX (idx := 44) (ci := 6) (o := 22) (cells' := 22) (slots' := 12199) (G' := gS n ly 23 [some 1, some 6, some 9, none, none, none, none, none, none, none, none] 22 6 (k_nulls 6)) 359 360 145 (by decide +kernel) (by decide +kernel) (by decide +kernel) (by decide +kernel) rfl (k_def_ok 6 (by decide)) rfl rfl rfl rfl rfl (Nat.le_of_ble_eq_true rfl) (Nat.le_of_ble_eq_true rfl) (Nat.le_refl _) (Nat.le_refl _) ?_
  refine c_seg hX ok_X11_init (Nat.le_of_ble_eq_true rfl) (Nat.le_of_ble_eq_true rfl) 19 ⟨_, rfl, rfl, rfl, rfl, rfl⟩ ?_
  refine c_init hX (j := 46) (n := 76) (na := 2) (o := 22) (h2 := 1) (cells' := 29) (slots' := 14146) (G' := gS n ly 30 [some 1, some 6, some 9, none, none, none, none, none, none, none, none] 22 6 [some 1, some 9, some 24, some 25, some 26, some 27, some 28, some 29, some 23, none]) (xs := [vR 1, vR 9]) (S' := [vR 22, vR 0]) _ rfl (by decide +kernel) rfl rfl (by decide +kernel) (by decide +kernel) rfl rfl rfl rfl (Nat.le_of_ble_eq_true rfl) (Nat.le_of_ble_eq_true rfl) (Nat.le_of_ble_eq_true rfl) (Nat.le_refl _) (Nat.le_refl _) (n_X6_init B n ly hn _ _ (show _ = (n : Int) from hb.1.2.2.2.2.1.trans hc)) (fun m4 hm4 => ?_)
  have hb2 : bS w d l m 30 m4 := by
    rw [hm4]
    exact bS_mzs (os := [22, 23, 24, 25, 26, 27, 28, 29]) hb (by decide) (by decide) (by decide) (fun o o1 o2 => by simp; omega) (by decide) (by decide)
  clear hm4 hb
  have hb := hb2
  clear hb2
  refine c_putR hX hin (idx := 49) (ci := 11) (k := 3) (o := 0) (q := 22) (rs := [some 1, some 6, some 9, none, none, none, none, none, none, none, none]) (rs' := [some 1, some 6, some 9, some 22, none, none, none, none, none, none, none]) (G' := gS n ly 30 [some 1, some 6, some 9, some 22, none, none, none, none, none, none, none] 22 6 [some 1, some 9, some 24, some 25, some 26, some 27, some 28, some 29, some 23, none]) (by decide +kernel) (by decide +kernel) rfl rfl rfl (fun _ => ⟨rfl, rfl⟩) rfl rfl rfl rfl ?_
  refine c_seg hX ok_X11_init (Nat.le_of_ble_eq_true rfl) (Nat.le_of_ble_eq_true rfl) 22 ⟨_, rfl, rfl, rfl, rfl, rfl⟩ ?_
  refine c_new hX (idx := 53) (ci := 7) (o := 30) (cells' := 30) (slots' := 14161) (G' := gS n ly 31 [some 1, some 6, some 9, some 22, none, none, none, none, none, none, none] 30 7 (k_nulls 7)) 408 409 146 (by decide +kernel) (by decide +kernel) (by decide +kernel) (by decide +kernel) rfl (k_def_ok 7 (by decide)) rfl rfl rfl rfl rfl (Nat.le_of_ble_eq_true rfl) (Nat.le_of_ble_eq_true rfl) (Nat.le_refl _) (Nat.le_refl _) ?_
  refine c_seg hX ok_X11_init (Nat.le_of_ble_eq_true rfl) (Nat.le_of_ble_eq_true rfl) 24 ⟨_, rfl, rfl, rfl, rfl, rfl⟩ ?_
  refine c_init hX (j := 55) (n := 88) (na := 3) (o := 30) (h2 := 1) (cells' := 36) (slots' := 19993) (G' := gS n ly 37 [some 1, some 6, some 9, some 22, none, none, none, none, none, none, none] 30 7 [some 1, some 9, some 22, some 31, some 32, some 33, some 34, some 35, some 36, none, none, none, none, none, none]) (xs := [vR 1, vR 9, vR 22]) (S' := [vR 30, vR 0]) _ rfl (by decide +kernel) rfl rfl (by decide +kernel) (by decide +kernel) rfl rfl rfl rfl (Nat.le_of_ble_eq_true rfl) (Nat.le_of_ble_eq_true rfl) (Nat.le_of_ble_eq_true rfl) (Nat.le_refl _) (Nat.le_refl _) (n_X7_init B n ly hn _ _ (show _ = (n : Int) from hb.1.2.2.2.2.1.trans hc)) (fun m5 hm5 => ?_)
  have hb2 : bS w d l m 37 m5 := by
    rw [hm5]
    exact bS_mzs (os := [30, 31, 32, 33, 34, 35, 36]) hb (by decide) (by decide) (by decide) (fun o o1 o2 => by simp; omega) (by decide) (by decide)
  clear hm5 hb
  have hb := hb2
  clear hb2
  refine c_putR hX hin (idx := 58) (ci := 11) (k := 4) (o := 0) (q := 30) (rs := [some 1, some 6, some 9, some 22, none, none, none, none, none, none, none]) (rs' := [some 1, some 6, some 9, some 22, some 30, none, none, none, none, none, none]) (G' := gS n ly 37 [some 1, some 6, some 9, some 22, some 30, none, none, none, none, none, none] 30 7 [some 1, some 9, some 22, some 31, some 32, some 33, some 34, some 35, some 36, none, none, none, none, none, none]) (by decide +kernel) (by decide +kernel) rfl rfl rfl (fun _ => ⟨rfl, rfl⟩) rfl rfl rfl rfl ?_
  refine c_seg hX ok_X11_init (Nat.le_of_ble_eq_true rfl) (Nat.le_of_ble_eq_true rfl) 27 ⟨_, rfl, rfl, rfl, rfl, rfl⟩ ?_
  refine c_new hX (idx := 62) (ci := 5) (o := 37) (cells' := 37) (slots' := 19999) (G' := gS n ly 38 [some 1, some 6, some 9, some 22, some 30, none, none, none, none, none, none] 37 5 (k_nulls 5)) 461 462 147 (by decide +kernel) (by decide +kernel) (by decide +kernel) (by decide +kernel) rfl (k_def_ok 5 (by decide)) rfl rfl rfl rfl rfl (Nat.le_of_ble_eq_true rfl) (Nat.le_of_ble_eq_true rfl) (Nat.le_refl _) (Nat.le_refl _) ?_
  refine c_seg hX ok_X11_init (Nat.le_of_ble_eq_true rfl) (Nat.le_of_ble_eq_true rfl) 29 ⟨_, rfl, rfl, rfl, rfl, rfl⟩ ?_
  refine c_init hX (j := 64) (n := 67) (na := 4) (o := 37) (h2 := 1) (cells' := 39) (slots' := 20647) (G' := gS n ly 40 [some 1, some 6, some 9, some 22, some 30, none, none, none, none, none, none] 37 5 [some 1, some 9, some 22, some 30, some 38, some 39]) (xs := [vR 1, vR 9, vR 22, vR 30]) (S' := [vR 37, vR 0]) _ rfl (by decide +kernel) rfl rfl (by decide +kernel) (by decide +kernel) rfl rfl rfl rfl (Nat.le_of_ble_eq_true rfl) (Nat.le_of_ble_eq_true rfl) (Nat.le_of_ble_eq_true rfl) (Nat.le_refl _) (Nat.le_refl _) (n_X5_init B n ly hn _ _ (show _ = (n : Int) from hb.1.2.2.2.2.1.trans hc)) (fun m6 hm6 => ?_)
  have hb2 : bS w d l m 40 m6 := by
    rw [hm6]
    exact bS_mzs (os := [37, 38, 39]) hb (by decide) (by decide) (by decide) (fun o o1 o2 => by simp; omega) (by decide) (by decide)
  clear hm6 hb
  have hb := hb2
  clear hb2
  refine c_putR hX hin (idx := 67) (ci := 11) (k := 5) (o := 0) (q := 37) (rs := [some 1, some 6, some 9, some 22, some 30, none, none, none, none, none, none]) (rs' := [some 1, some 6, some 9, some 22, some 30, some 37, none, none, none, none, none]) (G' := gS n ly 40 [some 1, some 6, some 9, some 22, some 30, some 37, none, none, none, none, none] 37 5 [some 1, some 9, some 22, some 30, some 38, some 39]) (by decide +kernel) (by decide +kernel) rfl rfl rfl (fun _ => ⟨rfl, rfl⟩) rfl rfl rfl rfl ?_
  refine c_seg hX ok_X11_init (Nat.le_of_ble_eq_true rfl) (Nat.le_of_ble_eq_true rfl) 32 ⟨_, rfl, rfl, rfl, rfl, rfl⟩ ?_
  refine c_new hX (idx := 71) (ci := 1) (o := 40) (cells' := 40) (slots' := 20651) (G' := gS n ly 41 [some 1, some 6, some 9, some 22, some 30, some 37, none, none, none, none, none] 40 1 (k_nulls 1)) 486 487 148 (by decide +kernel) (by decide +kernel) (by decide +kernel) (by decide +kernel) rfl (k_def_ok 1 (by decide)) rfl rfl rfl rfl rfl (Nat.le_of_ble_eq_true rfl) (Nat.le_of_ble_eq_true rfl) (Nat.le_refl _) (Nat.le_refl _) ?_
  refine c_seg hX ok_X11_init (Nat.le_of_ble_eq_true rfl) (Nat.le_of_ble_eq_true rfl) 34 ⟨_, rfl, rfl, rfl, rfl, rfl⟩ ?_
  refine c_init hX (j := 73) (n := 17) (na := 4) (o := 40) (h2 := 1) (cells' := 40) (slots' := 20651) (G' := gS n ly 41 [some 1, some 6, some 9, some 22, some 30, some 37, none, none, none, none, none] 40 1 [some 1, some 9, some 22, some 30]) (xs := [vR 1, vR 9, vR 22, vR 30]) (S' := [vR 40, vR 0]) _ rfl (by decide +kernel) rfl rfl (by decide +kernel) (by decide +kernel) rfl rfl rfl rfl (Nat.le_of_ble_eq_true rfl) (Nat.le_of_ble_eq_true rfl) (Nat.le_of_ble_eq_true rfl) (Nat.le_refl _) (Nat.le_refl _) (n_X1_init B n ly hn _ _ (show _ = (n : Int) from hb.1.2.2.2.2.1.trans hc)) (fun m7 hm7 => ?_)
  have hb2 : bS w d l m 41 m7 := by
    rw [hm7]
    exact bS_mzs (os := [40]) hb (by decide) (by decide) (by decide) (fun o o1 o2 => by simp; omega) (by decide) (by decide)
  clear hm7 hb
  have hb := hb2
  clear hb2
  refine c_putR hX hin (idx := 74) (ci := 11) (k := 6) (o := 0) (q := 40) (rs := [some 1, some 6, some 9, some 22, some 30, some 37, none, none, none, none, none]) (rs' := [some 1, some 6, some 9, some 22, some 30, some 37, some 40, none, none, none, none]) (G' := gS n ly 41 [some 1, some 6, some 9, some 22, some 30, some 37, some 40, none, none, none, none] 40 1 [some 1, some 9, some 22, some 30]) (by decide +kernel) (by decide +kernel) rfl rfl rfl (fun _ => ⟨rfl, rfl⟩) rfl rfl rfl rfl ?_
  refine c_seg hX ok_X11_init (Nat.le_of_ble_eq_true rfl) (Nat.le_of_ble_eq_true rfl) 37 ⟨_, rfl, rfl, rfl, rfl, rfl⟩ ?_
  refine c_new hX (idx := 78) (ci := 10) (o := 41) (cells' := 41) (slots' := 20662) (G' := gS n ly 42 [some 1, some 6, some 9, some 22, some 30, some 37, some 40, none, none, none, none] 41 10 (k_nulls 10)) 505 506 149 (by decide +kernel) (by decide +kernel) (by decide +kernel) (by decide +kernel) rfl (k_def_ok 10 (by decide)) rfl rfl rfl rfl rfl (Nat.le_of_ble_eq_true rfl) (Nat.le_of_ble_eq_true rfl) (Nat.le_refl _) (Nat.le_refl _) ?_
  refine c_seg hX ok_X11_init (Nat.le_of_ble_eq_true rfl) (Nat.le_of_ble_eq_true rfl) 39 ⟨_, rfl, rfl, rfl, rfl, rfl⟩ ?_
  refine c_init hX (j := 80) (n := 119) (na := 3) (o := 41) (h2 := 1) (cells' := 44) (slots' := 20671) (G' := gS n ly 45 [some 1, some 6, some 9, some 22, some 30, some 37, some 40, none, none, none, none] 41 10 [some 1, some 9, some 22, some 42, some 43, some 44, none, none, none, none, none]) (xs := [vR 1, vR 9, vR 22]) (S' := [vR 41, vR 0]) _ rfl (by decide +kernel) rfl rfl (by decide +kernel) (by decide +kernel) rfl rfl rfl rfl (Nat.le_of_ble_eq_true rfl) (Nat.le_of_ble_eq_true rfl) (Nat.le_of_ble_eq_true rfl) (Nat.le_refl _) (Nat.le_refl _) (n_X10_init B n ly hn _ _ w d (show _ = (n : Int) from hb.1.2.2.2.2.1.trans hc) hb.1.1 hb.1.2.1 (by omega) (by omega) (fun i => mz_at i)) (fun m8 hm8 => ?_)
  have hb2 : bS w d l m 45 m8 := by
    obtain ⟨t1, t2, t3, t4, t5, t6⟩ := hm8
    have hs : ∀ o, o < 41 → m8 o = m7 o := fun o ho => by rw [t1 o (by omega), mzs_ne (by simp; omega), mz_ne (by omega)]
    obtain ⟨h1, h2, h3, h4, h5, h6, h7⟩ := hb
    refine ⟨gridC_same h1 (fun o o1 o2 => hs o (by omega)), by rw [hs 6 (by omega)]; exact h2, by rw [hs 6 (by omega)]; exact h3, fun o o1 o2 o3 o4 i => ?_, fun _ => ?_, fun h => absurd h (by omega), fun o ho => by rw [t1 o (by omega), mzs_ne (by simp; omega), mz_ne (by omega)]; exact h7 o ho⟩
    · by_cases hk : o < 41
      · rw [hs o hk]; exact h4 o o1 hk o3 o4 i
      · rw [t1 o o3]; exact mzs_at i (by simp; omega)
    · rw [hs 3 (by omega), hs 4 (by omega), hc]
      exact ⟨t3, t4, t5, t6⟩
  clear hm8 hb
  have hb := hb2
  clear hb2
  refine c_putR hX hin (idx := 81) (ci := 11) (k := 7) (o := 0) (q := 41) (rs := [some 1, some 6, some 9, some 22, some 30, some 37, some 40, none, none, none, none]) (rs' := [some 1, some 6, some 9, some 22, some 30, some 37, some 40, some 41, none, none, none]) (G' := gS n ly 45 [some 1, some 6, some 9, some 22, some 30, some 37, some 40, some 41, none, none, none] 41 10 [some 1, some 9, some 22, some 42, some 43, some 44, none, none, none, none, none]) (by decide +kernel) (by decide +kernel) rfl rfl rfl (fun _ => ⟨rfl, rfl⟩) rfl rfl rfl rfl ?_
  refine c_seg hX ok_X11_init (Nat.le_of_ble_eq_true rfl) (Nat.le_of_ble_eq_true rfl) 42 ⟨_, rfl, rfl, rfl, rfl, rfl⟩ ?_
  refine c_new hX (idx := 85) (ci := 4) (o := 45) (cells' := 45) (slots' := 20676) (G' := gS n ly 46 [some 1, some 6, some 9, some 22, some 30, some 37, some 40, some 41, none, none, none] 45 4 (k_nulls 4)) 545 546 150 (by decide +kernel) (by decide +kernel) (by decide +kernel) (by decide +kernel) rfl (k_def_ok 4 (by decide)) rfl rfl rfl rfl rfl (Nat.le_of_ble_eq_true rfl) (Nat.le_of_ble_eq_true rfl) (Nat.le_refl _) (Nat.le_refl _) ?_
  refine c_seg hX ok_X11_init (Nat.le_of_ble_eq_true rfl) (Nat.le_of_ble_eq_true rfl) 44 ⟨_, rfl, rfl, rfl, rfl, rfl⟩ ?_
  refine c_init hX (j := 87) (n := 60) (na := 3) (o := 45) (h2 := 1) (cells' := 45) (slots' := 20676) (G' := gS n ly 46 [some 1, some 6, some 9, some 22, some 30, some 37, some 40, some 41, none, none, none] 45 4 [some 1, some 9, some 22, none, none]) (xs := [vR 1, vR 9, vR 22]) (S' := [vR 45, vR 0]) _ rfl (by decide +kernel) rfl rfl (by decide +kernel) (by decide +kernel) rfl rfl rfl rfl (Nat.le_of_ble_eq_true rfl) (Nat.le_of_ble_eq_true rfl) (Nat.le_of_ble_eq_true rfl) (Nat.le_refl _) (Nat.le_refl _) (n_X4_init B n ly hn _ _ (show _ = (n : Int) from hb.1.2.2.2.2.1.trans hc)) (fun m9 hm9 => ?_)
  have hb2 : bS w d l m 46 m9 := by
    rw [hm9]
    exact bS_mzs (os := [45]) hb (by decide) (by decide) (by decide) (fun o o1 o2 => by simp; omega) (by decide) (by decide)
  clear hm9 hb
  have hb := hb2
  clear hb2
  refine c_putR hX hin (idx := 88) (ci := 11) (k := 8) (o := 0) (q := 45) (rs := [some 1, some 6, some 9, some 22, some 30, some 37, some 40, some 41, none, none, none]) (rs' := [some 1, some 6, some 9, some 22, some 30, some 37, some 40, some 41, some 45, none, none]) (G' := gS n ly 46 [some 1, some 6, some 9, some 22, some 30, some 37, some 40, some 41, some 45, none, none] 45 4 [some 1, some 9, some 22, none, none]) (by decide +kernel) (by decide +kernel) rfl rfl rfl (fun _ => ⟨rfl, rfl⟩) rfl rfl rfl rfl ?_
  refine c_seg hX ok_X11_init (Nat.le_of_ble_eq_true rfl) (Nat.le_of_ble_eq_true rfl) 47 ⟨_, rfl, rfl, rfl, rfl, rfl⟩ ?_
  refine c_new hX (idx := 92) (ci := 0) (o := 46) (cells' := 46) (slots' := 20685) (G' := gS n ly 47 [some 1, some 6, some 9, some 22, some 30, some 37, some 40, some 41, some 45, none, none] 46 0 (k_nulls 0)) 567 568 151 (by decide +kernel) (by decide +kernel) (by decide +kernel) (by decide +kernel) rfl (k_def_ok 0 (by decide)) rfl rfl rfl rfl rfl (Nat.le_of_ble_eq_true rfl) (Nat.le_of_ble_eq_true rfl) (Nat.le_refl _) (Nat.le_refl _) ?_
  refine c_seg hX ok_X11_init (Nat.le_of_ble_eq_true rfl) (Nat.le_of_ble_eq_true rfl) 49 ⟨_, rfl, rfl, rfl, rfl, rfl⟩ ?_
  refine c_init hX (j := 94) (n := 0) (na := 2) (o := 46) (h2 := 2) (cells' := 50) (slots' := 21662) (G' := gS n ly 51 [some 1, some 6, some 9, some 22, some 30, some 37, some 40, some 41, some 45, none, none] 46 0 [some 1, some 9, some 47, none, none, some 48, some 49, some 50, none]) (xs := [vR 1, vR 9]) (S' := [vR 46, vR 0]) _ rfl (by decide +kernel) rfl rfl (by decide +kernel) (by decide +kernel) rfl rfl rfl rfl (Nat.le_of_ble_eq_true rfl) (Nat.le_of_ble_eq_true rfl) (Nat.le_of_ble_eq_true rfl) (Nat.le_refl _) (Nat.le_refl _) (n_X0_init B n ly hn (by omega) _ _ (show _ = (n : Int) from hb.1.2.2.2.2.1.trans hc) (show _ = (ly : Int) from hb.1.2.2.1.trans hly)) (fun m10 hm10 => ?_)
  have hb2 : bS w d l m 51 m10 := by
    have hs : ∀ o, o < 46 ∨ 54 ≤ o → m10 o = m9 o := fun o ho => by rw [hm10, mzs_ne (by simp; omega), k_mset_ne (by omega), mfill_ne (by omega), mz_ne (by omega), mz_ne (by omega)]
    obtain ⟨h1, h2, h3, h4, h5, h6, h7⟩ := hb
    refine ⟨gridC_same h1 (fun o o1 o2 => hs o (by omega)), by rw [hs 6 (by omega)]; exact h2, by rw [hs 6 (by omega)]; exact h3, fun o o1 o2 o3 o4 i => ?_, fun _ => by rw [hs 41 (by omega), hs 3 (by omega), hs 4 (by omega)]; exact h5 (by omega), fun _ => ?_, fun o ho => by rw [hs o (Or.inr ho)]; exact h7 o ho⟩
    · by_cases hk : o < 46
      · rw [hs o (Or.inl hk)]; exact h4 o o1 hk o3 o4 i
      · by_cases h46 : o = 46
        · subst h46
          rw [hm10, mzs_ne (by decide), k_mset_ne (by decide), mfill_ne (by decide), mz_ne (by decide), mz_at]
        · rw [hm10]; exact mzs_at i (by simp; omega)
    · rw [hm10, mzs_ne (by decide)]
      refine ⟨by rw [k_mset_at]; rfl, fun j j1 j2 => ?_⟩
      rw [k_mset_at, if_neg (by omega), mfill_at, if_pos (by omega)]
  clear hm10 hb
  have hb := hb2
  clear hb2
  refine c_putR hX hin (idx := 95) (ci := 11) (k := 9) (o := 0) (q := 46) (rs := [some 1, some 6, some 9, some 22, some 30, some 37, some 40, some 41, some 45, none, none]) (rs' := [some 1, some 6, some 9, some 22, some 30, some 37, some 40, some 41, some 45, some 46, none]) (G' := gS n ly 51 [some 1, some 6, some 9, some 22, some 30, some 37, some 40, some 41, some 45, some 46, none] 46 0 [some 1, some 9, some 47, none, none, some 48, some 49, some 50, none]) (by decide +kernel) (by decide +kernel) rfl rfl rfl (fun _ => ⟨rfl, rfl⟩) rfl rfl rfl rfl ?_
  refine c_seg hX ok_X11_init (Nat.le_of_ble_eq_true rfl) (Nat.le_of_ble_eq_true rfl) 52 ⟨_, rfl, rfl, rfl, rfl, rfl⟩ ?_
  refine c_new hX (idx := 99) (ci := 9) (o := 51) (cells' := 51) (slots' := 21668) (G' := gS n ly 52 [some 1, some 6, some 9, some 22, some 30, some 37, some 40, some 41, some 45, some 46, none] 51 9 (k_nulls 9)) 607 608 153 (by decide +kernel) (by decide +kernel) (by decide +kernel) (by decide +kernel) rfl (k_def_ok 9 (by decide)) rfl rfl rfl rfl rfl (Nat.le_of_ble_eq_true rfl) (Nat.le_of_ble_eq_true rfl) (Nat.le_refl _) (Nat.le_refl _) ?_
  refine c_seg hX ok_X11_init (Nat.le_of_ble_eq_true rfl) (Nat.le_of_ble_eq_true rfl) 54 ⟨_, rfl, rfl, rfl, rfl, rfl⟩ ?_
  refine c_init hX (j := 101) (n := 111) (na := 3) (o := 51) (h2 := 1) (cells' := 53) (slots' := 22318) (G' := gS n ly 54 [some 1, some 6, some 9, some 22, some 30, some 37, some 40, some 41, some 45, some 46, none] 51 9 [some 1, some 9, some 22, some 52, some 53, none]) (xs := [vR 1, vR 9, vR 22]) (S' := [vR 51, vR 0]) _ rfl (by decide +kernel) rfl rfl (by decide +kernel) (by decide +kernel) rfl rfl rfl rfl (Nat.le_of_ble_eq_true rfl) (Nat.le_of_ble_eq_true rfl) (Nat.le_of_ble_eq_true rfl) (Nat.le_refl _) (Nat.le_refl _) (n_X9_init B n ly hn _ _ (show _ = (n : Int) from hb.1.2.2.2.2.1.trans hc)) (fun m11 hm11 => ?_)
  have hb2 : bS w d l m 54 m11 := by
    rw [hm11]
    exact bS_mzs (os := [51, 52, 53]) hb (by decide) (by decide) (by decide) (fun o o1 o2 => by simp; omega) (by decide) (by decide)
  clear hm11 hb
  have hb := hb2
  clear hb2
  refine c_putR hX hin (idx := 102) (ci := 11) (k := 10) (o := 0) (q := 51) (rs := [some 1, some 6, some 9, some 22, some 30, some 37, some 40, some 41, some 45, some 46, none]) (rs' := [some 1, some 6, some 9, some 22, some 30, some 37, some 40, some 41, some 45, some 46, some 51]) (G' := (G0 n ly).take 54) (by decide +kernel) (by decide +kernel) rfl rfl rfl (fun _ => ⟨rfl, rfl⟩) rfl rfl rfl rfl ?_
  exact hend _ _ _ (by decide +kernel) hb
end
section
/-! the reference's constructor -/
def gM (n ly a : Nat) (rs : List (Option Nat)) : Gr := ((G0 n ly).take a).set 54 (.inl (12, rs))
/-- the reference's objects as they are made -/
def rS (w d l : Int) (ms : Mem) (m : Mem) : Prop := m 54 1 = w ∧ m 54 2 = d ∧ m 54 3 = l ∧ (∀ j, j ≠ 1 → j ≠ 2 → j ≠ 3 → m 54 j = 0) ∧ (∀ o, 55 ≤ o → o < 92 → o ≠ 88 → ∀ i, m o i = 0) ∧ (m 88 0 = 1 ∧ m 88 1 = 1 ∧ m 88 2 = 1 ∧ m 88 3 = 1 ∧ m 88 4 = 0) ∧ ∀ o, o < 54 ∨ 92 ≤ o → m o = ms o
set_option maxHeartbeats 4000000 in
set_option maxRecDepth 100000 in
theorem n_X12_init (B : Bs) (n ly : Nat) (m : Mem) (a b c w d l : Int) (hw : max 2 (min 9 a) = w) (hd : max 2 (min 9 b) = d) (hl : max 1 (min 4 c) = l) (hz : ∀ i, m 54 i = 0) : kNew B 2 M_X12_init.1 [vR 54, vI a, vI b, vI c] (gM n ly 55 (k_nulls 12)) (gM n ly 92 [none, none, none, none, some 55, none, none, none, some 56, some 57, some 58, some 59, some 60, none, none, some 61, some 62, some 63, some 64, some 65, some 66, some 67, some 68, some 69, some 70, some 71, none, some 72, none, none, none, some 73, some 74, none, some 75, some 76, some 77, some 78, some 79, some 80, some 81, none, some 82, some 83, some 84, some 85, some 86, none, none, some 87, some 88, some 89, some 90, some 91]) m 37 148642 (fun m' => rS w d l m m') := by
  refine c_start ok_X12_init rfl rfl rfl (Nat.le_of_ble_eq_true rfl) (fun p e s mm args below meth c0 Qf ad0 A hX hin hend => ?_)
  refine c_seg hX ok_X12_init (Nat.le_of_ble_eq_true rfl) (Nat.le_of_ble_eq_true rfl) 0 ⟨_, rfl, rfl, rfl, rfl, rfl⟩ ?_
  refine c_obj hX (idx := 12) (pos := 1515) (by decide +kernel) (by decide +kernel) rfl rfl rfl ?_
  refine c_seg hX ok_X12_init (Nat.le_of_ble_eq_true rfl) (Nat.le_of_ble_eq_true rfl) 2 ⟨_, rfl, rfl, rfl, rfl, rfl⟩ ?_
  refine c_newa hX (atype := .int) (ft := .int) (ty := 0) (n := 80) (o := 55) (cells' := 1) (slots' := 80) (G' := gM n ly 56 [none, none, none, none, none, none, none, none, none, none, none, none, none, none, none, none, none, none, none, none, none, none, none, none, none, none, none, none, none, none, none, none, none, none, none, none, none, none, none, none, none, none, none, none, none, none, none, none, none, none, none, none, none, none]) 253 (by decide +kernel) rfl rfl (Or.inl ⟨rfl, rfl⟩) (by decide +kernel) rfl rfl rfl rfl (by omega) rfl rfl (Nat.le_of_ble_eq_true rfl) (by show 0 + 80 ≤ 148642; omega) (Nat.le_refl _) (by omega) ?_
  refine c_putR hX hin (idx := 18) (ci := 12) (k := 4) (o := 54) (q := 55) (rs := [none, none, none, none, none, none, none, none, none, none, none, none, none, none, none, none, none, none, none, none, none, none, none, none, none, none, none, none, none, none, none, none, none, none, none, none, none, none, none, none, none, none, none, none, none, none, none, none, none, none, none, none, none, none]) (rs' := [none, none, none, none, some 55, none, none, none, none, none, none, none, none, none, none, none, none, none, none, none, none, none, none, none, none, none, none, none, none, none, none, none, none, none, none, none, none, none, none, none, none, none, none, none, none, none, none, none, none, none, none, none, none, none]) (G' := gM n ly 56 [none, none, none, none, some 55, none, none, none, none, none, none, none, none, none, none, none, none, none, none, none, none, none, none, none, none, none, none, none, none, none, none, none, none, none, none, none, none, none, none, none, none, none, none, none, none, none, none, none, none, none, none, none, none, none]) (by decide +kernel) (by decide +kernel) rfl rfl rfl (fun _ => ⟨rfl, rfl⟩) rfl rfl rfl rfl ?_
  refine c_seg hX ok_X12_init (Nat.le_of_ble_eq_true rfl) (Nat.le_of_ble_eq_true rfl) 5 ⟨_, rfl, rfl, rfl, rfl, rfl⟩ ?_
  refine c_newa hX (atype := .int) (ft := .int) (ty := 0) (n := 7) (o := 56) (cells' := 2) (slots' := 87) (G' := gM n ly 57 [none, none, none, none, some 55, none, none, none, none, none, none, none, none, none, none, none, none, none, none, none, none, none, none, none, none, none, none, none, none, none, none, none, none, none, none, none, none, none, none, none, none, none, none, none, none, none, none, none, none, none, none, none, none, none]) 253 (by decide +kernel) rfl rfl (Or.inl ⟨rfl, rfl⟩) (by decide +kernel) rfl rfl rfl rfl (by omega) rfl rfl (Nat.le_of_ble_eq_true rfl) (by show 80 + 7 ≤ 148642; omega) (Nat.le_refl _) (by omega) ?_
  refine c_putR hX hin (idx := 22) (ci := 12) (k := 8) (o := 54) (q := 56) (rs := [none, none, none, none, some 55, none, none, none, none, none, none, none, none, none, none, none, none, none, none, none, none, none, none, none, none, none, none, none, none, none, none, none, none, none, none, none, none, none, none, none, none, none, none, none, none, none, none, none, none, none, none, none, none, none]) (rs' := [none, none, none, none, some 55, none, none, none, some 56, none, none, none, none, none, none, none, none, none, none, none, none, none, none, none, none, none, none, none, none, none, none, none, none, none, none, none, none, none, none, none, none, none, none, none, none, none, none, none, none, none, none, none, none, none]) (G' := gM n ly 57 [none, none, none, none, some 55, none, none, none, some 56, none, none, none, none, none, none, none, none, none, none, none, none, none, none, none, none, none, none, none, none, none, none, none, none, none, none, none, none, none, none, none, none, none, none, none, none, none, none, none, none, none, none, none, none, none]) (by decide +kernel) (by decide +kernel) rfl rfl rfl (fun _ => ⟨rfl, rfl⟩) rfl rfl rfl rfl ?_
  refine c_seg hX ok_X12_init (Nat.le_of_ble_eq_true rfl) (Nat.le_of_ble_eq_true rfl) 8 ⟨_, rfl, rfl, rfl, rfl, rfl⟩ ?_
  refine c_newa hX (atype := .int) (ft := .int) (ty := 0) (n := 7) (o := 57) (cells' := 3) (slots' := 94) (G' := gM n ly 58 [none, none, none, none, some 55, none, none, none, some 56, none, none, none, none, none, none, none, none, none, none, none, none, none, none, none, none, none, none, none, none, none, none, none, none, none, none, none, none, none, none, none, none, none, none, none, none, none, none, none, none, none, none, none, none, none]) 253 (by decide +kernel) rfl rfl (Or.inl ⟨rfl, rfl⟩) (by decide +kernel) rfl rfl rfl rfl (by omega) rfl rfl (Nat.le_of_ble_eq_true rfl) (by show 87 + 7 ≤ 148642; omega) (Nat.le_refl _) (by omega) ?_
  refine c_putR hX hin (idx := 25) (ci := 12) (k := 9) (o := 54) (q := 57) (rs := [none, none, none, none, some 55, none, none, none, some 56, none, none, none, none, none, none, none, none, none, none, none, none, none, none, none, none, none, none, none, none, none, none, none, none, none, none, none, none, none, none, none, none, none, none, none, none, none, none, none, none, none, none, none, none, none]) (rs' := [none, none, none, none, some 55, none, none, none, some 56, some 57, none, none, none, none, none, none, none, none, none, none, none, none, none, none, none, none, none, none, none, none, none, none, none, none, none, none, none, none, none, none, none, none, none, none, none, none, none, none, none, none, none, none, none, none]) (G' := gM n ly 58 [none, none, none, none, some 55, none, none, none, some 56, some 57, none, none, none, none, none, none, none, none, none, none, none, none, none, none, none, none, none, none, none, none, none, none, none, none, none, none, none, none, none, none, none, none, none, none, none, none, none, none, none, none, none, none, none, none]) (by decide +kernel) (by decide +kernel) rfl rfl rfl (fun _ => ⟨rfl, rfl⟩) rfl rfl rfl rfl ?_
  refine c_seg hX ok_X12_init (Nat.le_of_ble_eq_true rfl) (Nat.le_of_ble_eq_true rfl) 11 ⟨_, rfl, rfl, rfl, rfl, rfl⟩ ?_
  refine c_newa hX (atype := .int) (ft := .int) (ty := 0) (n := 7) (o := 58) (cells' := 4) (slots' := 101) (G' := gM n ly 59 [none, none, none, none, some 55, none, none, none, some 56, some 57, none, none, none, none, none, none, none, none, none, none, none, none, none, none, none, none, none, none, none, none, none, none, none, none, none, none, none, none, none, none, none, none, none, none, none, none, none, none, none, none, none, none, none, none]) 253 (by decide +kernel) rfl rfl (Or.inl ⟨rfl, rfl⟩) (by decide +kernel) rfl rfl rfl rfl (by omega) rfl rfl (Nat.le_of_ble_eq_true rfl) (by show 94 + 7 ≤ 148642; omega) (Nat.le_refl _) (by omega) ?_
  refine c_putR hX hin (idx := 28) (ci := 12) (k := 10) (o := 54) (q := 58) (rs := [none, none, none, none, some 55, none, none, none, some 56, some 57, none, none, none, none, none, none, none, none, none, none, none, none, none, none, none, none, none, none, none, none, none, none, none, none, none, none, none, none, none, none, none, none, none, none, none, none, none, none, none, none, none, none, none, none]) (rs' := [none, none, none, none, some 55, none, none, none, some 56, some 57, some 58, none, none, none, none, none, none, none, none, none, none, none, none, none, none, none, none, none, none, none, none, none, none, none, none, none, none, none, none, none, none, none, none, none, none, none, none, none, none, none, none, none, none, none]) (G' := gM n ly 59 [none, none, none, none, some 55, none, none, none, some 56, some 57, some 58, none, none, none, none, none, none, none, none, none, none, none, none, none, none, none, none, none, none, none, none, none, none, none, none, none, none, none, none, none, none, none, none, none, none, none, none, none, none, none, none, none, none, none]) (by decide +kernel) (by decide +kernel) rfl rfl rfl (fun _ => ⟨rfl, rfl⟩) rfl rfl rfl rfl ?_
  refine c_seg hX ok_X12_init (Nat.le_of_ble_eq_true rfl) (Nat.le_of_ble_eq_true rfl) 14 ⟨_, rfl, rfl, rfl, rfl, rfl⟩ ?_
  refine c_newa hX (atype := .int) (ft := .int) (ty := 0) (n := 7) (o := 59) (cells' := 5) (slots' := 108) (G' := gM n ly 60 [none, none, none, none, some 55, none, none, none, some 56, some 57, some 58, none, none, none, none, none, none, none, none, none, none, none, none, none, none, none, none, none, none, none, none, none, none, none, none, none, none, none, none, none, none, none, none, none, none, none, none, none, none, none, none, none, none, none]) 253 (by decide +kernel) rfl rfl (Or.inl ⟨rfl, rfl⟩) (by decide +kernel) rfl rfl rfl rfl (by omega) rfl rfl (Nat.le_of_ble_eq_true rfl) (by show 101 + 7 ≤ 148642; omega) (Nat.le_refl _) (by omega) ?_
  refine c_putR hX hin (idx := 31) (ci := 12) (k := 11) (o := 54) (q := 59) (rs := [none, none, none, none, some 55, none, none, none, some 56, some 57, some 58, none, none, none, none, none, none, none, none, none, none, none, none, none, none, none, none, none, none, none, none, none, none, none, none, none, none, none, none, none, none, none, none, none, none, none, none, none, none, none, none, none, none, none]) (rs' := [none, none, none, none, some 55, none, none, none, some 56, some 57, some 58, some 59, none, none, none, none, none, none, none, none, none, none, none, none, none, none, none, none, none, none, none, none, none, none, none, none, none, none, none, none, none, none, none, none, none, none, none, none, none, none, none, none, none, none]) (G' := gM n ly 60 [none, none, none, none, some 55, none, none, none, some 56, some 57, some 58, some 59, none, none, none, none, none, none, none, none, none, none, none, none, none, none, none, none, none, none, none, none, none, none, none, none, none, none, none, none, none, none, none, none, none, none, none, none, none, none, none, none, none, none]) (by decide +kernel) (by decide +kernel) rfl rfl rfl (fun _ => ⟨rfl, rfl⟩) rfl rfl rfl rfl ?_
  refine c_seg hX ok_X12_init (Nat.le_of_ble_eq_true rfl) (Nat.le_of_ble_eq_true rfl) 17 ⟨_, rfl, rfl, rfl, rfl, rfl⟩ ?_
  refine c_newa hX (atype := .int) (ft := .int) (ty := 0) (n := 7) (o := 60) (cells' := 6) (slots' := 115) (G' := gM n ly 61 [none, none, none, none, some 55, none, none, none, some 56, some 57, some 58, some 59, none, none, none, none, none, none, none, none, none, none, none, none, none, none, none, none, none, none, none, none, none, none, none, none, none, none, none, none, none, none, none, none, none, none, none, none, none, none, none, none, none, none]) 253 (by decide +kernel) rfl rfl (Or.inl ⟨rfl, rfl⟩) (by decide +kernel) rfl rfl rfl rfl (by omega) rfl rfl (Nat.le_of_ble_eq_true rfl) (by show 108 + 7 ≤ 148642; omega) (Nat.le_refl _) (by omega) ?_
  refine c_putR hX hin (idx := 34) (ci := 12) (k := 12) (o := 54) (q := 60) (rs := [none, none, none, none, some 55, none, none, none, some 56, some 57, some 58, some 59, none, none, none, none, none, none, none, none, none, none, none, none, none, none, none, none, none, none, none, none, none, none, none, none, none, none, none, none, none, none, none, none, none, none, none, none, none, none, none, none, none, none]) (rs' := [none, none, none, none, some 55, none, none, none, some 56, some 57, some 58, some 59, some 60, none, none, none, none, none, none, none, none, none, none, none, none, none, none, none, none, none, none, none, none, none, none, none, none, none, none, none, none, none, none, none, none, none, none, none, none, none, none, none, none, none]) (G' := gM n ly 61 [none, none, none, none, some 55, none, none, none, some 56, some 57, some 58, some 59, some 60, none, none, none, none, none, none, none, none, none, none, none, none, none, none, none, none, none, none, none, none, none, none, none, none, none, none, none, none, none, none, none, none, none, none, none, none, none, none, none, none, none]) (by decide +kernel) (by decide +kernel) rfl rfl rfl (fun _ => ⟨rfl, rfl⟩) rfl rfl rfl rfl ?_
  refine c_seg hX ok_X12_init (Nat.le_of_ble_eq_true rfl) (Nat.le_of_ble_eq_true rfl) 20 ⟨_, rfl, rfl, rfl, rfl, rfl⟩ ?_
  refine c_newa hX (atype := .int) (ft := .int) (ty := 0) (n := 8) (o := 61) (cells' := 7) (slots' := 123) (G' := gM n ly 62 [none, none, none, none, some 55, none, none, none, some 56, some 57, some 58, some 59, some 60, none, none, none, none, none, none, none, none, none, none, none, none, none, none, none, none, none, none, none, none, none, none, none, none, none, none, none, none, none, none, none, none, none, none, none, none, none, none, none, none, none]) 253 (by decide +kernel) rfl rfl (Or.inl ⟨rfl, rfl⟩) (by decide +kernel) rfl rfl rfl rfl (by omega) rfl rfl (Nat.le_of_ble_eq_true rfl) (by show 115 + 8 ≤ 148642; omega) (Nat.le_refl _) (by omega) ?_
  refine c_putR hX hin (idx := 37) (ci := 12) (k := 15) (o := 54) (q := 61) (rs := [none, none, none, none, some 55, none, none, none, some 56, some 57, some 58, some 59, some 60, none, none, none, none, none, none, none, none, none, none, none, none, none, none, none, none, none, none, none, none, none, none, none, none, none, none, none, none, none, none, none, none, none, none, none, none, none, none, none, none, none]) (rs' := [none, none, none, none, some 55, none, none, none, some 56, some 57, some 58, some 59, some 60, none, none, some 61, none, none, none, none, none, none, none, none, none, none, none, none, none, none, none, none, none, none, none, none, none, none, none, none, none, none, none, none, none, none, none, none, none, none, none, none, none, none]) (G' := gM n ly 62 [none, none, none, none, some 55, none, none, none, some 56, some 57, some 58, some 59, some 60, none, none, some 61, none, none, none, none, none, none, none, none, none, none, none, none, none, none, none, none, none, none, none, none, none, none, none, none, none, none, none, none, none, none, none, none, none, none, none, none, none, none]) (by decide +kernel) (by decide +kernel) rfl rfl rfl (fun _ => ⟨rfl, rfl⟩) rfl rfl rfl rfl ?_
  refine c_seg hX ok_X12_init (Nat.le_of_ble_eq_true rfl) (Nat.le_of_ble_eq_true rfl) 23 ⟨_, rfl, rfl, rfl, rfl, rfl⟩ ?_
  refine c_newa hX (atype := .int) (ft := .int) (ty := 0) (n := 8) (o := 62) (cells' := 8) (slots' := 131) (G' := gM n ly 63 [none, none, none, none, some 55, none, none, none, some 56, some 57, some 58, some 59, some 60, none, none, some 61, none, none, none, none, none, none, none, none, none, none, none, none, none, none, none, none, none, none, none, none, none, none, none, none, none, none, none, none, none, none, none, none, none, none, none, none, none, none]) 253 (by decide +kernel) rfl rfl (Or.inl ⟨rfl, rfl⟩) (by decide +kernel) rfl rfl rfl rfl (by omega) rfl rfl (Nat.le_of_ble_eq_true rfl) (by show 123 + 8 ≤ 148642; omega) (Nat.le_refl _) (by omega) ?_
  refine c_putR hX hin (idx := 40) (ci := 12) (k := 16) (o := 54) (q := 62) (rs := [none, none, none, none, some 55, none, none, none, some 56, some 57, some 58, some 59, some 60, none, none, some 61, none, none, none, none, none, none, none, none, none, none, none, none, none, none, none, none, none, none, none, none, none, none, none, none, none, none, none, none, none, none, none, none, none, none, none, none, none, none]) (rs' := [none, none, none, none, some 55, none, none, none, some 56, some 57, some 58, some 59, some 60, none, none, some 61, some 62, none, none, none, none, none, none, none, none, none, none, none, none, none, none, none, none, none, none, none, none, none, none, none, none, none, none, none, none, none, none, none, none, none, none, none, none, none]) (G' := gM n ly 63 [none, none, none, none, some 55, none, none, none, some 56, some 57, some 58, some 59, some 60, none, none, some 61, some 62, none, none, none, none, none, none, none, none, none, none, none, none, none, none, none, none, none, none, none, none, none, none, none, none, none, none, none, none, none, none, none, none, none, none, none, none, none]) (by decide +kernel) (by decide +kernel) rfl rfl rfl (fun _ => ⟨rfl, rfl⟩) rfl rfl rfl rfl ?_
  refine c_seg hX ok_X12_init (Nat.le_of_ble_eq_true rfl) (Nat.le_of_ble_eq_true rfl) 26 ⟨_, rfl, rfl, rfl, rfl, rfl⟩ ?_
  refine c_newa hX (atype := .int) (ft := .int) (ty := 0) (n := 8) (o := 63) (cells' := 9) (slots' := 139) (G' := gM n ly 64 [none, none, none, none, some 55, none, none, none, some 56, some 57, some 58, some 59, some 60, none, none, some 61, some 62, none, none, none, none, none, none, none, none, none, none, none, none, none, none, none, none, none, none, none, none, none, none, none, none, none, none, none, none, none, none, none, none, none, none, none, none, none]) 253 (by decide +kernel) rfl rfl (Or.inl ⟨rfl, rfl⟩) (by decide +kernel) rfl rfl rfl rfl (by omega) rfl rfl (Nat.le_of_ble_eq_true rfl) (by show 131 + 8 ≤ 148642; omega) (Nat.le_refl _) (by omega) ?_
  refine c_putR hX hin (idx := 43) (ci := 12) (k := 17) (o := 54) (q := 63) (rs := [none, none, none, none, some 55, none, none, none, some 56, some 57, some 58, some 59, some 60, none, none, some 61, some 62, none, none, none, none, none, none, none, none, none, none, none, none, none, none, none, none, none, none, none, none, none, none, none, none, none, none, none, none, none, none, none, none, none, none, none, none, none]) (rs' := [none, none, none, none, some 55, none, none, none, some 56, some 57, some 58, some 59, some 60, none, none, some 61, some 62, some 63, none, none, none, none, none, none, none, none, none, none, none, none, none, none, none, none, none, none, none, none, none, none, none, none, none, none, none, none, none, none, none, none, none, none, none, none]) (G' := gM n ly 64 [none, none, none, none, some 55, none, none, none, some 56, some 57, some 58, some 59, some 60, none, none, some 61, some 62, some 63, none, none, none, none, none, none, none, none, none, none, none, none, none, none, none, none, none, none, none, none, none, none, none, none, none, none, none, none, none, none, none, none, none, none, none, none]) (by decide +kernel) (by decide +kernel) rfl rfl rfl (fun _ => ⟨rfl, rfl⟩) rfl rfl rfl rfl ?_
  refine c_seg hX ok_X12_init (Nat.le_of_ble_eq_true rfl) (Nat.le_of_ble_eq_true rfl) 29 ⟨_, rfl, rfl, rfl, rfl, rfl⟩ ?_
  refine c_newa hX (atype := .int) (ft := .int) (ty := 0) (n := 32) (o := 64) (cells' := 10) (slots' := 171) (G' := gM n ly 65 [none, none, none, none, some 55, none, none, none, some 56, some 57, some 58, some 59, some 60, none, none, some 61, some 62, some 63, none, none, none, none, none, none, none, none, none, none, none, none, none, none, none, none, none, none, none, none, none, none, none, none, none, none, none, none, none, none, none, none, none, none, none, none]) 253 (by decide +kernel) rfl rfl (Or.inl ⟨rfl, rfl⟩) (by decide +kernel) rfl rfl rfl rfl (by omega) rfl rfl (Nat.le_of_ble_eq_true rfl) (by show 139 + 32 ≤ 148642; omega) (Nat.le_refl _) (by omega) ?_
  refine c_putR hX hin (idx := 46) (ci := 12) (k := 18) (o := 54) (q := 64) (rs := [none, none, none, none, some 55, none, none, none, some 56, some 57, some 58, some 59, some 60, none, none, some 61, some 62, some 63, none, none, none, none, none, none, none, none, none, none, none, none, none, none, none, none, none, none, none, none, none, none, none, none, none, none, none, none, none, none, none, none, none, none, none, none]) (rs' := [none, none, none, none, some 55, none, none, none, some 56, some 57, some 58, some 59, some 60, none, none, some 61, some 62, some 63, some 64, none, none, none, none, none, none, none, none, none, none, none, none, none, none, none, none, none, none, none, none, none, none, none, none, none, none, none, none, none, none, none, none, none, none, none]) (G' := gM n ly 65 [none, none, none, none, some 55, none, none, none, some 56, some 57, some 58, some 59, some 60, none, none, some 61, some 62, some 63, some 64, none, none, none, none, none, none, none, none, none, none, none, none, none, none, none, none, none, none, none, none, none, none, none, none, none, none, none, none, none, none, none, none, none, none, none]) (by decide +kernel) (by decide +kernel) rfl rfl rfl (fun _ => ⟨rfl, rfl⟩) rfl rfl rfl rfl ?_
  refine c_seg hX ok_X12_init (Nat.le_of_ble_eq_true rfl) (Nat.le_of_ble_eq_true rfl) 32 ⟨_, rfl, rfl, rfl, rfl, rfl⟩ ?_
  refine c_newa hX (atype := .int) (ft := .int) (ty := 0) (n := 8) (o := 65) (cells' := 11) (slots' := 179) (G' := gM n ly 66 [none, none, none, none, some 55, none, none, none, some 56, some 57, some 58, some 59, some 60, none, none, some 61, some 62, some 63, some 64, none, none, none, none, none, none, none, none, none, none, none, none, none, none, none, none, none, none, none, none, none, none, none, none, none, none, none, none, none, none, none, none, none, none, none]) 253 (by decide +kernel) rfl rfl (Or.inl ⟨rfl, rfl⟩) (by decide +kernel) rfl rfl rfl rfl (by omega) rfl rfl (Nat.le_of_ble_eq_true rfl) (by show 171 + 8 ≤ 148642; omega) (Nat.le_refl _) (by omega) ?_
  refine c_putR hX hin (idx := 49) (ci := 12) (k := 19) (o := 54) (q := 65) (rs := [none, none, none, none, some 55, none, none, none, some 56, some 57, some 58, some 59, some 60, none, none, some 61, some 62, some 63, some 64, none, none, none, none, none, none, none, none, none, none, none, none, none, none, none, none, none, none, none, none, none, none, none, none, none, none, none, none, none, none, none, none, none, none, none]) (rs' := [none, none, none, none, some 55, none, none, none, some 56, some 57, some 58, some 59, some 60, none, none, some 61, some 62, some 63, some 64, some 65, none, none, none, none, none, none, none, none, none, none, none, none, none, none, none, none, none, none, none, none, none, none, none, none, none, none, none, none, none, none, none, none, none, none]) (G' := gM n ly 66 [none, none, none, none, some 55, none, none, none, some 56, some 57, some 58, some 59, some 60, none, none, some 61, some 62, some 63, some 64, some 65, none, none, none, none, none, none, none, none, none, none, none, none, none, none, none, none, none, none, none, none, none, none, none, none, none, none, none, none, none, none, none, none, none, none]) (by decide +kernel) (by decide +kernel) rfl rfl rfl (fun _ => ⟨rfl, rfl⟩) rfl rfl rfl rfl ?_
  refine c_seg hX ok_X12_init (Nat.le_of_ble_eq_true rfl) (Nat.le_of_ble_eq_true rfl) 35 ⟨_, rfl, rfl, rfl, rfl, rfl⟩ ?_
  refine c_newa hX (atype := .int) (ft := .int) (ty := 0) (n := 9600) (o := 66) (cells' := 12) (slots' := 9779) (G' := gM n ly 67 [none, none, none, none, some 55, none, none, none, some 56, some 57, some 58, some 59, some 60, none, none, some 61, some 62, some 63, some 64, some 65, none, none, none, none, none, none, none, none, none, none, none, none, none, none, none, none, none, none, none, none, none, none, none, none, none, none, none, none, none, none, none, none, none, none]) 253 (by decide +kernel) rfl rfl (Or.inl ⟨rfl, rfl⟩) (by decide +kernel) rfl rfl rfl rfl (by omega) rfl rfl (Nat.le_of_ble_eq_true rfl) (by show 179 + 9600 ≤ 148642; omega) (Nat.le_refl _) (by omega) ?_
  refine c_putR hX hin (idx := 52) (ci := 12) (k := 20) (o := 54) (q := 66) (rs := [none, none, none, none, some 55, none, none, none, some 56, some 57, some 58, some 59, some 60, none, none, some 61, some 62, some 63, some 64, some 65, none, none, none, none, none, none, none, none, none, none, none, none, none, none, none, none, none, none, none, none, none, none, none, none, none, none, none, none, none, none, none, none, none, none]) (rs' := [none, none, none, none, some 55, none, none, none, some 56, some 57, some 58, some 59, some 60, none, none, some 61, some 62, some 63, some 64, some 65, some 66, none, none, none, none, none, none, none, none, none, none, none, none, none, none, none, none, none, none, none, none, none, none, none, none, none, none, none, none, none, none, none, none, none]) (G' := gM n ly 67 [none, none, none, none, some 55, none, none, none, some 56, some 57, some 58, some 59, some 60, none, none, some 61, some 62, some 63, some 64, some 65, some 66, none, none, none, none, none, none, none, none, none, none, none, none, none, none, none, none, none, none, none, none, none, none, none, none, none, none, none, none, none, none, none, none, none]) (by decide +kernel) (by decide +kernel) rfl rfl rfl (fun _ => ⟨rfl, rfl⟩) rfl rfl rfl rfl ?_
  refine c_seg hX ok_X12_init (Nat.le_of_ble_eq_true rfl) (Nat.le_of_ble_eq_true rfl) 38 ⟨_, rfl, rfl, rfl, rfl, rfl⟩ ?_
  refine c_newa hX (atype := .int) (ft := .int) (ty := 0) (n := 9600) (o := 67) (cells' := 13) (slots' := 19379) (G' := gM n ly 68 [none, none, none, none, some 55, none, none, none, some 56, some 57, some 58, some 59, some 60, none, none, some 61, some 62, some 63, some 64, some 65, some 66, none, none, none, none, none, none, none, none, none, none, none, none, none, none, none, none, none, none, none, none, none, none, none, none, none, none, none, none, none, none, none, none, none]) 253 (by decide +kernel) rfl rfl (Or.inl ⟨rfl, rfl⟩) (by decide +kernel) rfl rfl rfl rfl (by omega) rfl rfl (Nat.le_of_ble_eq_true rfl) (by show 9779 + 9600 ≤ 148642; omega) (Nat.le_refl _) (by omega) ?_
  refine c_putR hX hin (idx := 55) (ci := 12) (k := 21) (o := 54) (q := 67) (rs := [none, none, none, none, some 55, none, none, none, some 56, some 57, some 58, some 59, some 60, none, none, some 61, some 62, some 63, some 64, some 65, some 66, none, none, none, none, none, none, none, none, none, none, none, none, none, none, none, none, none, none, none, none, none, none, none, none, none, none, none, none, none, none, none, none, none]) (rs' := [none, none, none, none, some 55, none, none, none, some 56, some 57, some 58, some 59, some 60, none, none, some 61, some 62, some 63, some 64, some 65, some 66, some 67, none, none, none, none, none, none, none, none, none, none, none, none, none, none, none, none, none, none, none, none, none, none, none, none, none, none, none, none, none, none, none, none]) (G' := gM n ly 68 [none, none, none, none, some 55, none, none, none, some 56, some 57, some 58, some 59, some 60, none, none, some 61, some 62, some 63, some 64, some 65, some 66, some 67, none, none, none, none, none, none, none, none, none, none, none, none, none, none, none, none, none, none, none, none, none, none, none, none, none, none, none, none, none, none, none, none]) (by decide +kernel) (by decide +kernel) rfl rfl rfl (fun _ => ⟨rfl, rfl⟩) rfl rfl rfl rfl ?_
  refine c_seg hX ok_X12_init (Nat.le_of_ble_eq_true rfl) (Nat.le_of_ble_eq_true rfl) 41 ⟨_, rfl, rfl, rfl, rfl, rfl⟩ ?_
  refine c_newa hX (atype := .int) (ft := .int) (ty := 0) (n := 8) (o := 68) (cells' := 14) (slots' := 19387) (G' := gM n ly 69 [none, none, none, none, some 55, none, none, none, some 56, some 57, some 58, some 59, some 60, none, none, some 61, some 62, some 63, some 64, some 65, some 66, some 67, none, none, none, none, none, none, none, none, none, none, none, none, none, none, none, none, none, none, none, none, none, none, none, none, none, none, none, none, none, none, none, none]) 253 (by decide +kernel) rfl rfl (Or.inl ⟨rfl, rfl⟩) (by decide +kernel) rfl rfl rfl rfl (by omega) rfl rfl (Nat.le_of_ble_eq_true rfl) (by show 19379 + 8 ≤ 148642; omega) (Nat.le_refl _) (by omega) ?_
  refine c_putR hX hin (idx := 58) (ci := 12) (k := 22) (o := 54) (q := 68) (rs := [none, none, none, none, some 55, none, none, none, some 56, some 57, some 58, some 59, some 60, none, none, some 61, some 62, some 63, some 64, some 65, some 66, some 67, none, none, none, none, none, none, none, none, none, none, none, none, none, none, none, none, none, none, none, none, none, none, none, none, none, none, none, none, none, none, none, none]) (rs' := [none, none, none, none, some 55, none, none, none, some 56, some 57, some 58, some 59, some 60, none, none, some 61, some 62, some 63, some 64, some 65, some 66, some 67, some 68, none, none, none, none, none, none, none, none, none, none, none, none, none, none, none, none, none, none, none, none, none, none, none, none, none, none, none, none, none, none, none]) (G' := gM n ly 69 [none, none, none, none, some 55, none, none, none, some 56, some 57, some 58, some 59, some 60, none, none, some 61, some 62, some 63, some 64, some 65, some 66, some 67, some 68, none, none, none, none, none, none, none, none, none, none, none, none, none, none, none, none, none, none, none, none, none, none, none, none, none, none, none, none, none, none, none]) (by decide +kernel) (by decide +kernel) rfl rfl rfl (fun _ => ⟨rfl, rfl⟩) rfl rfl rfl rfl ?_
  refine c_seg hX ok_X12_init (Nat.le_of_ble_eq_true rfl) (Nat.le_of_ble_eq_true rfl) 44 ⟨_, rfl, rfl, rfl, rfl, rfl⟩ ?_
  refine c_newa hX (atype := .int) (ft := .int) (ty := 0) (n := 19200) (o := 69) (cells' := 15) (slots' := 38587) (G' := gM n ly 70 [none, none, none, none, some 55, none, none, none, some 56, some 57, some 58, some 59, some 60, none, none, some 61, some 62, some 63, some 64, some 65, some 66, some 67, some 68, none, none, none, none, none, none, none, none, none, none, none, none, none, none, none, none, none, none, none, none, none, none, none, none, none, none, none, none, none, none, none]) 253 (by decide +kernel) rfl rfl (Or.inl ⟨rfl, rfl⟩) (by decide +kernel) rfl rfl rfl rfl (by omega) rfl rfl (Nat.le_of_ble_eq_true rfl) (by show 19387 + 19200 ≤ 148642; omega) (Nat.le_refl _) (by omega) ?_
  refine c_putR hX hin (idx := 61) (ci := 12) (k := 23) (o := 54) (q := 69) (rs := [none, none, none, none, some 55, none, none, none, some 56, some 57, some 58, some 59, some 60, none, none, some 61, some 62, some 63, some 64, some 65, some 66, some 67, some 68, none, none, none, none, none, none, none, none, none, none, none, none, none, none, none, none, none, none, none, none, none, none, none, none, none, none, none, none, none, none, none]) (rs' := [none, none, none, none, some 55, none, none, none, some 56, some 57, some 58, some 59, some 60, none, none, some 61, some 62, some 63, some 64, some 65, some 66, some 67, some 68, some 69, none, none, none, none, none, none, none, none, none, none, none, none, none, none, none, none, none, none, none, none, none, none, none, none, none, none, none, none, none, none]) (G' := gM n ly 70 [none, none, none, none, some 55, none, none, none, some 56, some 57, some 58, some 59, some 60, none, none, some 61, some 62, some 63, some 64, some 65, some 66, some 67, some 68, some 69, none, none, none, none, none, none, none, none, none, none, none, none, none, none, none, none, none, none, none, none, none, none, none, none, none, none, none, none, none, none]) (by decide +kernel) (by decide +kernel) rfl rfl rfl (fun _ => ⟨rfl, rfl⟩) rfl rfl rfl rfl ?_
  refine c_seg hX ok_X12_init (Nat.le_of_ble_eq_true rfl) (Nat.le_of_ble_eq_true rfl) 47 ⟨_, rfl, rfl, rfl, rfl, rfl⟩ ?_
  refine c_newa hX (atype := .int) (ft := .int) (ty := 0) (n := 19200) (o := 70) (cells' := 16) (slots' := 57787) (G' := gM n ly 71 [none, none, none, none, some 55, none, none, none, some 56, some 57, some 58, some 59, some 60, none, none, some 61, some 62, some 63, some 64, some 65, some 66, some 67, some 68, some 69, none, none, none, none, none, none, none, none, none, none, none, none, none, none, none, none, none, none, none, none, none, none, none, none, none, none, none, none, none, none]) 253 (by decide +kernel) rfl rfl (Or.inl ⟨rfl, rfl⟩) (by decide +kernel) rfl rfl rfl rfl (by omega) rfl rfl (Nat.le_of_ble_eq_true rfl) (by show 38587 + 19200 ≤ 148642; omega) (Nat.le_refl _) (by omega) ?_
  refine c_putR hX hin (idx := 64) (ci := 12) (k := 24) (o := 54) (q := 70) (rs := [none, none, none, none, some 55, none, none, none, some 56, some 57, some 58, some 59, some 60, none, none, some 61, some 62, some 63, some 64, some 65, some 66, some 67, some 68, some 69, none, none, none, none, none, none, none, none, none, none, none, none, none, none, none, none, none, none, none, none, none, none, none, none, none, none, none, none, none, none]) (rs' := [none, none, none, none, some 55, none, none, none, some 56, some 57, some 58, some 59, some 60, none, none, some 61, some 62, some 63, some 64, some 65, some 66, some 67, some 68, some 69, some 70, none, none, none, none, none, none, none, none, none, none, none, none, none, none, none, none, none, none, none, none, none, none, none, none, none, none, none, none, none]) (G' := gM n ly 71 [none, none, none, none, some 55, none, none, none, some 56, some 57, some 58, some 59, some 60, none, none, some 61, some 62, some 63, some 64, some 65, some 66, some 67, some 68, some 69, some 70, none, none, none, none, none, none, none, none, none, none, none, none, none, none, none, none, none, none, none, none, none, none, none, none, none, none, none, none, none]) (by decide +kernel) (by decide +kernel) rfl rfl rfl (fun _ => ⟨rfl, rfl⟩) rfl rfl rfl rfl ?_
  refine c_seg hX ok_X12_init (Nat.le_of_ble_eq_true rfl) (Nat.le_of_ble_eq_true rfl) 50 ⟨_, rfl, rfl, rfl, rfl, rfl⟩ ?_
  refine c_newa hX (atype := .boolean) (ft := .boolean) (ty := 1) (n := 324) (o := 71) (cells' := 17) (slots' := 58111) (G' := gM n ly 72 [none, none, none, none, some 55, none, none, none, some 56, some 57, some 58, some 59, some 60, none, none, some 61, some 62, some 63, some 64, some 65, some 66, some 67, some 68, some 69, some 70, none, none, none, none, none, none, none, none, none, none, none, none, none, none, none, none, none, none, none, none, none, none, none, none, none, none, none, none, none]) 1684 (by decide +kernel) rfl rfl (Or.inr (Or.inl ⟨rfl, rfl⟩)) (by decide +kernel) rfl rfl rfl rfl (by omega) rfl rfl (Nat.le_of_ble_eq_true rfl) (by show 57787 + 324 ≤ 148642; omega) (Nat.le_refl _) (by omega) ?_
  refine c_putR hX hin (idx := 67) (ci := 12) (k := 25) (o := 54) (q := 71) (rs := [none, none, none, none, some 55, none, none, none, some 56, some 57, some 58, some 59, some 60, none, none, some 61, some 62, some 63, some 64, some 65, some 66, some 67, some 68, some 69, some 70, none, none, none, none, none, none, none, none, none, none, none, none, none, none, none, none, none, none, none, none, none, none, none, none, none, none, none, none, none]) (rs' := [none, none, none, none, some 55, none, none, none, some 56, some 57, some 58, some 59, some 60, none, none, some 61, some 62, some 63, some 64, some 65, some 66, some 67, some 68, some 69, some 70, some 71, none, none, none, none, none, none, none, none, none, none, none, none, none, none, none, none, none, none, none, none, none, none, none, none, none, none, none, none]) (G' := gM n ly 72 [none, none, none, none, some 55, none, none, none, some 56, some 57, some 58, some 59, some 60, none, none, some 61, some 62, some 63, some 64, some 65, some 66, some 67, some 68, some 69, some 70, some 71, none, none, none, none, none, none, none, none, none, none, none, none, none, none, none, none, none, none, none, none, none, none, none, none, none, none, none, none]) (by decide +kernel) (by decide +kernel) rfl rfl rfl (fun _ => ⟨rfl, rfl⟩) rfl rfl rfl rfl ?_
  refine c_seg hX ok_X12_init (Nat.le_of_ble_eq_true rfl) (Nat.le_of_ble_eq_true rfl) 53 ⟨_, rfl, rfl, rfl, rfl, rfl⟩ ?_
  refine c_newa hX (atype := .int) (ft := .int) (ty := 0) (n := 2592) (o := 72) (cells' := 18) (slots' := 60703) (G' := gM n ly 73 [none, none, none, none, some 55, none, none, none, some 56, some 57, some 58, some 59, some 60, none, none, some 61, some 62, some 63, some 64, some 65, some 66, some 67, some 68, some 69, some 70, some 71, none, none, none, none, none, none, none, none, none, none, none, none, none, none, none, none, none, none, none, none, none, none, none, none, none, none, none, none]) 253 (by decide +kernel) rfl rfl (Or.inl ⟨rfl, rfl⟩) (by decide +kernel) rfl rfl rfl rfl (by omega) rfl rfl (Nat.le_of_ble_eq_true rfl) (by show 58111 + 2592 ≤ 148642; omega) (Nat.le_refl _) (by omega) ?_
  refine c_putR hX hin (idx := 71) (ci := 12) (k := 27) (o := 54) (q := 72) (rs := [none, none, none, none, some 55, none, none, none, some 56, some 57, some 58, some 59, some 60, none, none, some 61, some 62, some 63, some 64, some 65, some 66, some 67, some 68, some 69, some 70, some 71, none, none, none, none, none, none, none, none, none, none, none, none, none, none, none, none, none, none, none, none, none, none, none, none, none, none, none, none]) (rs' := [none, none, none, none, some 55, none, none, none, some 56, some 57, some 58, some 59, some 60, none, none, some 61, some 62, some 63, some 64, some 65, some 66, some 67, some 68, some 69, some 70, some 71, none, some 72, none, none, none, none, none, none, none, none, none, none, none, none, none, none, none, none, none, none, none, none, none, none, none, none, none, none]) (G' := gM n ly 73 [none, none, none, none, some 55, none, none, none, some 56, some 57, some 58, some 59, some 60, none, none, some 61, some 62, some 63, some 64, some 65, some 66, some 67, some 68, some 69, some 70, some 71, none, some 72, none, none, none, none, none, none, none, none, none, none, none, none, none, none, none, none, none, none, none, none, none, none, none, none, none, none]) (by decide +kernel) (by decide +kernel) rfl rfl rfl (fun _ => ⟨rfl, rfl⟩) rfl rfl rfl rfl ?_
  refine c_seg hX ok_X12_init (Nat.le_of_ble_eq_true rfl) (Nat.le_of_ble_eq_true rfl) 56 ⟨_, rfl, rfl, rfl, rfl, rfl⟩ ?_
  refine c_newa hX (atype := .int) (ft := .int) (ty := 0) (n := 2400) (o := 73) (cells' := 19) (slots' := 63103) (G' := gM n ly 74 [none, none, none, none, some 55, none, none, none, some 56, some 57, some 58, some 59, some 60, none, none, some 61, some 62, some 63, some 64, some 65, some 66, some 67, some 68, some 69, some 70, some 71, none, some 72, none, none, none, none, none, none, none, none, none, none, none, none, none, none, none, none, none, none, none, none, none, none, none, none, none, none]) 253 (by decide +kernel) rfl rfl (Or.inl ⟨rfl, rfl⟩) (by decide +kernel) rfl rfl rfl rfl (by omega) rfl rfl (Nat.le_of_ble_eq_true rfl) (by show 60703 + 2400 ≤ 148642; omega) (Nat.le_refl _) (by omega) ?_
  refine c_putR hX hin (idx := 74) (ci := 12) (k := 31) (o := 54) (q := 73) (rs := [none, none, none, none, some 55, none, none, none, some 56, some 57, some 58, some 59, some 60, none, none, some 61, some 62, some 63, some 64, some 65, some 66, some 67, some 68, some 69, some 70, some 71, none, some 72, none, none, none, none, none, none, none, none, none, none, none, none, none, none, none, none, none, none, none, none, none, none, none, none, none, none]) (rs' := [none, none, none, none, some 55, none, none, none, some 56, some 57, some 58, some 59, some 60, none, none, some 61, some 62, some 63, some 64, some 65, some 66, some 67, some 68, some 69, some 70, some 71, none, some 72, none, none, none, some 73, none, none, none, none, none, none, none, none, none, none, none, none, none, none, none, none, none, none, none, none, none, none]) (G' := gM n ly 74 [none, none, none, none, some 55, none, none, none, some 56, some 57, some 58, some 59, some 60, none, none, some 61, some 62, some 63, some 64, some 65, some 66, some 67, some 68, some 69, some 70, some 71, none, some 72, none, none, none, some 73, none, none, none, none, none, none, none, none, none, none, none, none, none, none, none, none, none, none, none, none, none, none]) (by decide +kernel) (by decide +kernel) rfl rfl rfl (fun _ => ⟨rfl, rfl⟩) rfl rfl rfl rfl ?_
  refine c_seg hX ok_X12_init (Nat.le_of_ble_eq_true rfl) (Nat.le_of_ble_eq_true rfl) 59 ⟨_, rfl, rfl, rfl, rfl, rfl⟩ ?_
  refine c_newa hX (atype := .int) (ft := .int) (ty := 0) (n := 2400) (o := 74) (cells' := 20) (slots' := 65503) (G' := gM n ly 75 [none, none, none, none, some 55, none, none, none, some 56, some 57, some 58, some 59, some 60, none, none, some 61, some 62, some 63, some 64, some 65, some 66, some 67, some 68, some 69, some 70, some 71, none, some 72, none, none, none, some 73, none, none, none, none, none, none, none, none, none, none, none, none, none, none, none, none, none, none, none, none, none, none]) 253 (by decide +kernel) rfl rfl (Or.inl ⟨rfl, rfl⟩) (by decide +kernel) rfl rfl rfl rfl (by omega) rfl rfl (Nat.le_of_ble_eq_true rfl) (by show 63103 + 2400 ≤ 148642; omega) (Nat.le_refl _) (by omega) ?_
  refine c_putR hX hin (idx := 77) (ci := 12) (k := 32) (o := 54) (q := 74) (rs := [none, none, none, none, some 55, none, none, none, some 56, some 57, some 58, some 59, some 60, none, none, some 61, some 62, some 63, some 64, some 65, some 66, some 67, some 68, some 69, some 70, some 71, none, some 72, none, none, none, some 73, none, none, none, none, none, none, none, none, none, none, none, none, none, none, none, none, none, none, none, none, none, none]) (rs' := [none, none, none, none, some 55, none, none, none, some 56, some 57, some 58, some 59, some 60, none, none, some 61, some 62, some 63, some 64, some 65, some 66, some 67, some 68, some 69, some 70, some 71, none, some 72, none, none, none, some 73, some 74, none, none, none, none, none, none, none, none, none, none, none, none, none, none, none, none, none, none, none, none, none]) (G' := gM n ly 75 [none, none, none, none, some 55, none, none, none, some 56, some 57, some 58, some 59, some 60, none, none, some 61, some 62, some 63, some 64, some 65, some 66, some 67, some 68, some 69, some 70, some 71, none, some 72, none, none, none, some 73, some 74, none, none, none, none, none, none, none, none, none, none, none, none, none, none, none, none, none, none, none, none, none]) (by decide +kernel) (by decide +kernel) rfl rfl rfl (fun _ => ⟨rfl, rfl⟩) rfl rfl rfl rfl ?_
  refine c_seg hX ok_X12_init (Nat.le_of_ble_eq_true rfl) (Nat.le_of_ble_eq_true rfl) 62 ⟨_, rfl, rfl, rfl, rfl, rfl⟩ ?_
  refine c_newa hX (atype := .int) (ft := .int) (ty := 0) (n := 19200) (o := 75) (cells' := 21) (slots' := 84703) (G' := gM n ly 76 [none, none, none, none, some 55, none, none, none, some 56, some 57, some 58, some 59, some 60, none, none, some 61, some 62, some 63, some 64, some 65, some 66, some 67, some 68, some 69, some 70, some 71, none, some 72, none, none, none, some 73, some 74, none, none, none, none, none, none, none, none, none, none, none, none, none, none, none, none, none, none, none, none, none]) 253 (by decide +kernel) rfl rfl (Or.inl ⟨rfl, rfl⟩) (by decide +kernel) rfl rfl rfl rfl (by omega) rfl rfl (Nat.le_of_ble_eq_true rfl) (by show 65503 + 19200 ≤ 148642; omega) (Nat.le_refl _) (by omega) ?_
  refine c_putR hX hin (idx := 80) (ci := 12) (k := 34) (o := 54) (q := 75) (rs := [none, none, none, none, some 55, none, none, none, some 56, some 57, some 58, some 59, some 60, none, none, some 61, some 62, some 63, some 64, some 65, some 66, some 67, some 68, some 69, some 70, some 71, none, some 72, none, none, none, some 73, some 74, none, none, none, none, none, none, none, none, none, none, none, none, none, none, none, none, none, none, none, none, none]) (rs' := [none, none, none, none, some 55, none, none, none, some 56, some 57, some 58, some 59, some 60, none, none, some 61, some 62, some 63, some 64, some 65, some 66, some 67, some 68, some 69, some 70, some 71, none, some 72, none, none, none, some 73, some 74, none, some 75, none, none, none, none, none, none, none, none, none, none, none, none, none, none, none, none, none, none, none]) (G' := gM n ly 76 [none, none, none, none, some 55, none, none, none, some 56, some 57, some 58, some 59, some 60, none, none, some 61, some 62, some 63, some 64, some 65, some 66, some 67, some 68, some 69, some 70, some 71, none, some 72, none, none, none, some 73, some 74, none, some 75, none, none, none, none, none, none, none, none, none, none, none, none, none, none, none, none, none, none, none]) (by decide +kernel) (by decide +kernel) rfl rfl rfl (fun _ => ⟨rfl, rfl⟩) rfl rfl rfl rfl ?_
  refine c_seg hX ok_X12_init (Nat.le_of_ble_eq_true rfl) (Nat.le_of_ble_eq_true rfl) 65 ⟨_, rfl, rfl, rfl, rfl, rfl⟩ ?_
  refine c_newa hX (atype := .int) (ft := .int) (ty := 0) (n := 19200) (o := 76) (cells' := 22) (slots' := 103903) (G' := gM n ly 77 [none, none, none, none, some 55, none, none, none, some 56, some 57, some 58, some 59, some 60, none, none, some 61, some 62, some 63, some 64, some 65, some 66, some 67, some 68, some 69, some 70, some 71, none, some 72, none, none, none, some 73, some 74, none, some 75, none, none, none, none, none, none, none, none, none, none, none, none, none, none, none, none, none, none, none]) 253 (by decide +kernel) rfl rfl (Or.inl ⟨rfl, rfl⟩) (by decide +kernel) rfl rfl rfl rfl (by omega) rfl rfl (Nat.le_of_ble_eq_true rfl) (by show 84703 + 19200 ≤ 148642; omega) (Nat.le_refl _) (by omega) ?_
  refine c_putR hX hin (idx := 83) (ci := 12) (k := 35) (o := 54) (q := 76) (rs := [none, none, none, none, some 55, none, none, none, some 56, some 57, some 58, some 59, some 60, none, none, some 61, some 62, some 63, some 64, some 65, some 66, some 67, some 68, some 69, some 70, some 71, none, some 72, none, none, none, some 73, some 74, none, some 75, none, none, none, none, none, none, none, none, none, none, none, none, none, none, none, none, none, none, none]) (rs' := [none, none, none, none, some 55, none, none, none, some 56, some 57, some 58, some 59, some 60, none, none, some 61, some 62, some 63, some 64, some 65, some 66, some 67, some 68, some 69, some 70, some 71, none, some 72, none, none, none, some 73, some 74, none, some 75, some 76, none, none, none, none, none, none, none, none, none, none, none, none, none, none, none, none, none, none]) (G' := gM n ly 77 [none, none, none, none, some 55, none, none, none, some 56, some 57, some 58, some 59, some 60, none, none, some 61, some 62, some 63, some 64, some 65, some 66, some 67, some 68, some 69, some 70, some 71, none, some 72, none, none, none, some 73, some 74, none, some 75, some 76, none, none, none, none, none, none, none, none, none, none, none, none, none, none, none, none, none, none]) (by decide +kernel) (by decide +kernel) rfl rfl rfl (fun _ => ⟨rfl, rfl⟩) rfl rfl rfl rfl ?_
  refine c_seg hX ok_X12_init (Nat.le_of_ble_eq_true rfl) (Nat.le_of_ble_eq_true rfl) 68 ⟨_, rfl, rfl, rfl, rfl, rfl⟩ ?_
  refine c_newa hX (atype := .int) (ft := .int) (ty := 0) (n := 8) (o := 77) (cells' := 23) (slots' := 103911) (G' := gM n ly 78 [none, none, none, none, some 55, none, none, none, some 56, some 57, some 58, some 59, some 60, none, none, some 61, some 62, some 63, some 64, some 65, some 66, some 67, some 68, some 69, some 70, some 71, none, some 72, none, none, none, some 73, some 74, none, some 75, some 76, none, none, none, none, none, none, none, none, none, none, none, none, none, none, none, none, none, none]) 253 (by decide +kernel) rfl rfl (Or.inl ⟨rfl, rfl⟩) (by decide +kernel) rfl rfl rfl rfl (by omega) rfl rfl (Nat.le_of_ble_eq_true rfl) (by show 103903 + 8 ≤ 148642; omega) (Nat.le_refl _) (by omega) ?_
  refine c_putR hX hin (idx := 86) (ci := 12) (k := 36) (o := 54) (q := 77) (rs := [none, none, none, none, some 55, none, none, none, some 56, some 57, some 58, some 59, some 60, none, none, some 61, some 62, some 63, some 64, some 65, some 66, some 67, some 68, some 69, some 70, some 71, none, some 72, none, none, none, some 73, some 74, none, some 75, some 76, none, none, none, none, none, none, none, none, none, none, none, none, none, none, none, none, none, none]) (rs' := [none, none, none, none, some 55, none, none, none, some 56, some 57, some 58, some 59, some 60, none, none, some 61, some 62, some 63, some 64, some 65, some 66, some 67, some 68, some 69, some 70, some 71, none, some 72, none, none, none, some 73, some 74, none, some 75, some 76, some 77, none, none, none, none, none, none, none, none, none, none, none, none, none, none, none, none, none]) (G' := gM n ly 78 [none, none, none, none, some 55, none, none, none, some 56, some 57, some 58, some 59, some 60, none, none, some 61, some 62, some 63, some 64, some 65, some 66, some 67, some 68, some 69, some 70, some 71, none, some 72, none, none, none, some 73, some 74, none, some 75, some 76, some 77, none, none, none, none, none, none, none, none, none, none, none, none, none, none, none, none, none]) (by decide +kernel) (by decide +kernel) rfl rfl rfl (fun _ => ⟨rfl, rfl⟩) rfl rfl rfl rfl ?_
  refine c_seg hX ok_X12_init (Nat.le_of_ble_eq_true rfl) (Nat.le_of_ble_eq_true rfl) 71 ⟨_, rfl, rfl, rfl, rfl, rfl⟩ ?_
  refine c_newa hX (atype := .boolean) (ft := .boolean) (ty := 1) (n := 324) (o := 78) (cells' := 24) (slots' := 104235) (G' := gM n ly 79 [none, none, none, none, some 55, none, none, none, some 56, some 57, some 58, some 59, some 60, none, none, some 61, some 62, some 63, some 64, some 65, some 66, some 67, some 68, some 69, some 70, some 71, none, some 72, none, none, none, some 73, some 74, none, some 75, some 76, some 77, none, none, none, none, none, none, none, none, none, none, none, none, none, none, none, none, none]) 1684 (by decide +kernel) rfl rfl (Or.inr (Or.inl ⟨rfl, rfl⟩)) (by decide +kernel) rfl rfl rfl rfl (by omega) rfl rfl (Nat.le_of_ble_eq_true rfl) (by show 103911 + 324 ≤ 148642; omega) (Nat.le_refl _) (by omega) ?_
  refine c_putR hX hin (idx := 89) (ci := 12) (k := 37) (o := 54) (q := 78) (rs := [none, none, none, none, some 55, none, none, none, some 56, some 57, some 58, some 59, some 60, none, none, some 61, some 62, some 63, some 64, some 65, some 66, some 67, some 68, some 69, some 70, some 71, none, some 72, none, none, none, some 73, some 74, none, some 75, some 76, some 77, none, none, none, none, none, none, none, none, none, none, none, none, none, none, none, none, none]) (rs' := [none, none, none, none, some 55, none, none, none, some 56, some 57, some 58, some 59, some 60, none, none, some 61, some 62, some 63, some 64, some 65, some 66, some 67, some 68, some 69, some 70, some 71, none, some 72, none, none, none, some 73, some 74, none, some 75, some 76, some 77, some 78, none, none, none, none, none, none, none, none, none, none, none, none, none, none, none, none]) (G' := gM n ly 79 [none, none, none, none, some 55, none, none, none, some 56, some 57, some 58, some 59, some 60, none, none, some 61, some 62, some 63, some 64, some 65, some 66, some 67, some 68, some 69, some 70, some 71, none, some 72, none, none, none, some 73, some 74, none, some 75, some 76, some 77, some 78, none, none, none, none, none, none, none, none, none, none, none, none, none, none, none, none]) (by decide +kernel) (by decide +kernel) rfl rfl rfl (fun _ => ⟨rfl, rfl⟩) rfl rfl rfl rfl ?_
  refine c_seg hX ok_X12_init (Nat.le_of_ble_eq_true rfl) (Nat.le_of_ble_eq_true rfl) 74 ⟨_, rfl, rfl, rfl, rfl, rfl⟩ ?_
  refine c_newa hX (atype := .int) (ft := .int) (ty := 0) (n := 1620) (o := 79) (cells' := 25) (slots' := 105855) (G' := gM n ly 80 [none, none, none, none, some 55, none, none, none, some 56, some 57, some 58, some 59, some 60, none, none, some 61, some 62, some 63, some 64, some 65, some 66, some 67, some 68, some 69, some 70, some 71, none, some 72, none, none, none, some 73, some 74, none, some 75, some 76, some 77, some 78, none, none, none, none, none, none, none, none, none, none, none, none, none, none, none, none]) 253 (by decide +kernel) rfl rfl (Or.inl ⟨rfl, rfl⟩) (by decide +kernel) rfl rfl rfl rfl (by omega) rfl rfl (Nat.le_of_ble_eq_true rfl) (by show 104235 + 1620 ≤ 148642; omega) (Nat.le_refl _) (by omega) ?_
  refine c_putR hX hin (idx := 92) (ci := 12) (k := 38) (o := 54) (q := 79) (rs := [none, none, none, none, some 55, none, none, none, some 56, some 57, some 58, some 59, some 60, none, none, some 61, some 62, some 63, some 64, some 65, some 66, some 67, some 68, some 69, some 70, some 71, none, some 72, none, none, none, some 73, some 74, none, some 75, some 76, some 77, some 78, none, none, none, none, none, none, none, none, none, none, none, none, none, none, none, none]) (rs' := [none, none, none, none, some 55, none, none, none, some 56, some 57, some 58, some 59, some 60, none, none, some 61, some 62, some 63, some 64, some 65, some 66, some 67, some 68, some 69, some 70, some 71, none, some 72, none, none, none, some 73, some 74, none, some 75, some 76, some 77, some 78, some 79, none, none, none, none, none, none, none, none, none, none, none, none, none, none, none]) (G' := gM n ly 80 [none, none, none, none, some 55, none, none, none, some 56, some 57, some 58, some 59, some 60, none, none, some 61, some 62, some 63, some 64, some 65, some 66, some 67, some 68, some 69, some 70, some 71, none, some 72, none, none, none, some 73, some 74, none, some 75, some 76, some 77, some 78, some 79, none, none, none, none, none, none, none, none, none, none, none, none, none, none, none]) (by decide +kernel) (by decide +kernel) rfl rfl rfl (fun _ => ⟨rfl, rfl⟩) rfl rfl rfl rfl ?_
  refine c_seg hX ok_X12_init (Nat.le_of_ble_eq_true rfl) (Nat.le_of_ble_eq_true rfl) 77 ⟨_, rfl, rfl, rfl, rfl, rfl⟩ ?_
  refine c_newa hX (atype := .boolean) (ft := .boolean) (ty := 1) (n := 324) (o := 80) (cells' := 26) (slots' := 106179) (G' := gM n ly 81 [none, none, none, none, some 55, none, none, none, some 56, some 57, some 58, some 59, some 60, none, none, some 61, some 62, some 63, some 64, some 65, some 66, some 67, some 68, some 69, some 70, some 71, none, some 72, none, none, none, some 73, some 74, none, some 75, some 76, some 77, some 78, some 79, none, none, none, none, none, none, none, none, none, none, none, none, none, none, none]) 1684 (by decide +kernel) rfl rfl (Or.inr (Or.inl ⟨rfl, rfl⟩)) (by decide +kernel) rfl rfl rfl rfl (by omega) rfl rfl (Nat.le_of_ble_eq_true rfl) (by show 105855 + 324 ≤ 148642; omega) (Nat.le_refl _) (by omega) ?_
  refine c_putR hX hin (idx := 95) (ci := 12) (k := 39) (o := 54) (q := 80) (rs := [none, none, none, none, some 55, none, none, none, some 56, some 57, some 58, some 59, some 60, none, none, some 61, some 62, some 63, some 64, some 65, some 66, some 67, some 68, some 69, some 70, some 71, none, some 72, none, none, none, some 73, some 74, none, some 75, some 76, some 77, some 78, some 79, none, none, none, none, none, none, none, none, none, none, none, none, none, none, none]) (rs' := [none, none, none, none, some 55, none, none, none, some 56, some 57, some 58, some 59, some 60, none, none, some 61, some 62, some 63, some 64, some 65, some 66, some 67, some 68, some 69, some 70, some 71, none, some 72, none, none, none, some 73, some 74, none, some 75, some 76, some 77, some 78, some 79, some 80, none, none, none, none, none, none, none, none, none, none, none, none, none, none]) (G' := gM n ly 81 [none, none, none, none, some 55, none, none, none, some 56, some 57, some 58, some 59, some 60, none, none, some 61, some 62, some 63, some 64, some 65, some 66, some 67, some 68, some 69, some 70, some 71, none, some 72, none, none, none, some 73, some 74, none, some 75, some 76, some 77, some 78, some 79, some 80, none, none, none, none, none, none, none, none, none, none, none, none, none, none]) (by decide +kernel) (by decide +kernel) rfl rfl rfl (fun _ => ⟨rfl, rfl⟩) rfl rfl rfl rfl ?_
  refine c_seg hX ok_X12_init (Nat.le_of_ble_eq_true rfl) (Nat.le_of_ble_eq_true rfl) 80 ⟨_, rfl, rfl, rfl, rfl, rfl⟩ ?_
  refine c_newa hX (atype := .int) (ft := .int) (ty := 0) (n := 324) (o := 81) (cells' := 27) (slots' := 106503) (G' := gM n ly 82 [none, none, none, none, some 55, none, none, none, some 56, some 57, some 58, some 59, some 60, none, none, some 61, some 62, some 63, some 64, some 65, some 66, some 67, some 68, some 69, some 70, some 71, none, some 72, none, none, none, some 73, some 74, none, some 75, some 76, some 77, some 78, some 79, some 80, none, none, none, none, none, none, none, none, none, none, none, none, none, none]) 253 (by decide +kernel) rfl rfl (Or.inl ⟨rfl, rfl⟩) (by decide +kernel) rfl rfl rfl rfl (by omega) rfl rfl (Nat.le_of_ble_eq_true rfl) (by show 106179 + 324 ≤ 148642; omega) (Nat.le_refl _) (by omega) ?_
  refine c_putR hX hin (idx := 98) (ci := 12) (k := 40) (o := 54) (q := 81) (rs := [none, none, none, none, some 55, none, none, none, some 56, some 57, some 58, some 59, some 60, none, none, some 61, some 62, some 63, some 64, some 65, some 66, some 67, some 68, some 69, some 70, some 71, none, some 72, none, none, none, some 73, some 74, none, some 75, some 76, some 77, some 78, some 79, some 80, none, none, none, none, none, none, none, none, none, none, none, none, none, none]) (rs' := [none, none, none, none, some 55, none, none, none, some 56, some 57, some 58, some 59, some 60, none, none, some 61, some 62, some 63, some 64, some 65, some 66, some 67, some 68, some 69, some 70, some 71, none, some 72, none, none, none, some 73, some 74, none, some 75, some 76, some 77, some 78, some 79, some 80, some 81, none, none, none, none, none, none, none, none, none, none, none, none, none]) (G' := gM n ly 82 [none, none, none, none, some 55, none, none, none, some 56, some 57, some 58, some 59, some 60, none, none, some 61, some 62, some 63, some 64, some 65, some 66, some 67, some 68, some 69, some 70, some 71, none, some 72, none, none, none, some 73, some 74, none, some 75, some 76, some 77, some 78, some 79, some 80, some 81, none, none, none, none, none, none, none, none, none, none, none, none, none]) (by decide +kernel) (by decide +kernel) rfl rfl rfl (fun _ => ⟨rfl, rfl⟩) rfl rfl rfl rfl ?_
  refine c_seg hX ok_X12_init (Nat.le_of_ble_eq_true rfl) (Nat.le_of_ble_eq_true rfl) 83 ⟨_, rfl, rfl, rfl, rfl, rfl⟩ ?_
  refine c_newa hX (atype := .int) (ft := .int) (ty := 0) (n := 324) (o := 82) (cells' := 28) (slots' := 106827) (G' := gM n ly 83 [none, none, none, none, some 55, none, none, none, some 56, some 57, some 58, some 59, some 60, none, none, some 61, some 62, some 63, some 64, some 65, some 66, some 67, some 68, some 69, some 70, some 71, none, some 72, none, none, none, some 73, some 74, none, some 75, some 76, some 77, some 78, some 79, some 80, some 81, none, none, none, none, none, none, none, none, none, none, none, none, none]) 253 (by decide +kernel) rfl rfl (Or.inl ⟨rfl, rfl⟩) (by decide +kernel) rfl rfl rfl rfl (by omega) rfl rfl (Nat.le_of_ble_eq_true rfl) (by show 106503 + 324 ≤ 148642; omega) (Nat.le_refl _) (by omega) ?_
  refine c_putR hX hin (idx := 101) (ci := 12) (k := 42) (o := 54) (q := 82) (rs := [none, none, none, none, some 55, none, none, none, some 56, some 57, some 58, some 59, some 60, none, none, some 61, some 62, some 63, some 64, some 65, some 66, some 67, some 68, some 69, some 70, some 71, none, some 72, none, none, none, some 73, some 74, none, some 75, some 76, some 77, some 78, some 79, some 80, some 81, none, none, none, none, none, none, none, none, none, none, none, none, none]) (rs' := [none, none, none, none, some 55, none, none, none, some 56, some 57, some 58, some 59, some 60, none, none, some 61, some 62, some 63, some 64, some 65, some 66, some 67, some 68, some 69, some 70, some 71, none, some 72, none, none, none, some 73, some 74, none, some 75, some 76, some 77, some 78, some 79, some 80, some 81, none, some 82, none, none, none, none, none, none, none, none, none, none, none]) (G' := gM n ly 83 [none, none, none, none, some 55, none, none, none, some 56, some 57, some 58, some 59, some 60, none, none, some 61, some 62, some 63, some 64, some 65, some 66, some 67, some 68, some 69, some 70, some 71, none, some 72, none, none, none, some 73, some 74, none, some 75, some 76, some 77, some 78, some 79, some 80, some 81, none, some 82, none, none, none, none, none, none, none, none, none, none, none]) (by decide +kernel) (by decide +kernel) rfl rfl rfl (fun _ => ⟨rfl, rfl⟩) rfl rfl rfl rfl ?_
  refine c_seg hX ok_X12_init (Nat.le_of_ble_eq_true rfl) (Nat.le_of_ble_eq_true rfl) 86 ⟨_, rfl, rfl, rfl, rfl, rfl⟩ ?_
  refine c_newa hX (atype := .boolean) (ft := .boolean) (ty := 1) (n := 324) (o := 83) (cells' := 29) (slots' := 107151) (G' := gM n ly 84 [none, none, none, none, some 55, none, none, none, some 56, some 57, some 58, some 59, some 60, none, none, some 61, some 62, some 63, some 64, some 65, some 66, some 67, some 68, some 69, some 70, some 71, none, some 72, none, none, none, some 73, some 74, none, some 75, some 76, some 77, some 78, some 79, some 80, some 81, none, some 82, none, none, none, none, none, none, none, none, none, none, none]) 1684 (by decide +kernel) rfl rfl (Or.inr (Or.inl ⟨rfl, rfl⟩)) (by decide +kernel) rfl rfl rfl rfl (by omega) rfl rfl (Nat.le_of_ble_eq_true rfl) (by show 106827 + 324 ≤ 148642; omega) (Nat.le_refl _) (by omega) ?_
  refine c_putR hX hin (idx := 104) (ci := 12) (k := 43) (o := 54) (q := 83) (rs := [none, none, none, none, some 55, none, none, none, some 56, some 57, some 58, some 59, some 60, none, none, some 61, some 62, some 63, some 64, some 65, some 66, some 67, some 68, some 69, some 70, some 71, none, some 72, none, none, none, some 73, some 74, none, some 75, some 76, some 77, some 78, some 79, some 80, some 81, none, some 82, none, none, none, none, none, none, none, none, none, none, none]) (rs' := [none, none, none, none, some 55, none, none, none, some 56, some 57, some 58, some 59, some 60, none, none, some 61, some 62, some 63, some 64, some 65, some 66, some 67, some 68, some 69, some 70, some 71, none, some 72, none, none, none, some 73, some 74, none, some 75, some 76, some 77, some 78, some 79, some 80, some 81, none, some 82, some 83, none, none, none, none, none, none, none, none, none, none]) (G' := gM n ly 84 [none, none, none, none, some 55, none, none, none, some 56, some 57, some 58, some 59, some 60, none, none, some 61, some 62, some 63, some 64, some 65, some 66, some 67, some 68, some 69, some 70, some 71, none, some 72, none, none, none, some 73, some 74, none, some 75, some 76, some 77, some 78, some 79, some 80, some 81, none, some 82, some 83, none, none, none, none, none, none, none, none, none, none]) (by decide +kernel) (by decide +kernel) rfl rfl rfl (fun _ => ⟨rfl, rfl⟩) rfl rfl rfl rfl ?_
  refine c_seg hX ok_X12_init (Nat.le_of_ble_eq_true rfl) (Nat.le_of_ble_eq_true rfl) 89 ⟨_, rfl, rfl, rfl, rfl, rfl⟩ ?_
  refine c_newa hX (atype := .int) (ft := .int) (ty := 0) (n := 324) (o := 84) (cells' := 30) (slots' := 107475) (G' := gM n ly 85 [none, none, none, none, some 55, none, none, none, some 56, some 57, some 58, some 59, some 60, none, none, some 61, some 62, some 63, some 64, some 65, some 66, some 67, some 68, some 69, some 70, some 71, none, some 72, none, none, none, some 73, some 74, none, some 75, some 76, some 77, some 78, some 79, some 80, some 81, none, some 82, some 83, none, none, none, none, none, none, none, none, none, none]) 253 (by decide +kernel) rfl rfl (Or.inl ⟨rfl, rfl⟩) (by decide +kernel) rfl rfl rfl rfl (by omega) rfl rfl (Nat.le_of_ble_eq_true rfl) (by show 107151 + 324 ≤ 148642; omega) (Nat.le_refl _) (by omega) ?_
  refine c_putR hX hin (idx := 107) (ci := 12) (k := 44) (o := 54) (q := 84) (rs := [none, none, none, none, some 55, none, none, none, some 56, some 57, some 58, some 59, some 60, none, none, some 61, some 62, some 63, some 64, some 65, some 66, some 67, some 68, some 69, some 70, some 71, none, some 72, none, none, none, some 73, some 74, none, some 75, some 76, some 77, some 78, some 79, some 80, some 81, none, some 82, some 83, none, none, none, none, none, none, none, none, none, none]) (rs' := [none, none, none, none, some 55, none, none, none, some 56, some 57, some 58, some 59, some 60, none, none, some 61, some 62, some 63, some 64, some 65, some 66, some 67, some 68, some 69, some 70, some 71, none, some 72, none, none, none, some 73, some 74, none, some 75, some 76, some 77, some 78, some 79, some 80, some 81, none, some 82, some 83, some 84, none, none, none, none, none, none, none, none, none]) (G' := gM n ly 85 [none, none, none, none, some 55, none, none, none, some 56, some 57, some 58, some 59, some 60, none, none, some 61, some 62, some 63, some 64, some 65, some 66, some 67, some 68, some 69, some 70, some 71, none, some 72, none, none, none, some 73, some 74, none, some 75, some 76, some 77, some 78, some 79, some 80, some 81, none, some 82, some 83, some 84, none, none, none, none, none, none, none, none, none]) (by decide +kernel) (by decide +kernel) rfl rfl rfl (fun _ => ⟨rfl, rfl⟩) rfl rfl rfl rfl ?_
  refine c_seg hX ok_X12_init (Nat.le_of_ble_eq_true rfl) (Nat.le_of_ble_eq_true rfl) 92 ⟨_, rfl, rfl, rfl, rfl, rfl⟩ ?_
  refine c_newa hX (atype := .boolean) (ft := .boolean) (ty := 1) (n := 81) (o := 85) (cells' := 31) (slots' := 107556) (G' := gM n ly 86 [none, none, none, none, some 55, none, none, none, some 56, some 57, some 58, some 59, some 60, none, none, some 61, some 62, some 63, some 64, some 65, some 66, some 67, some 68, some 69, some 70, some 71, none, some 72, none, none, none, some 73, some 74, none, some 75, some 76, some 77, some 78, some 79, some 80, some 81, none, some 82, some 83, some 84, none, none, none, none, none, none, none, none, none]) 1684 (by decide +kernel) rfl rfl (Or.inr (Or.inl ⟨rfl, rfl⟩)) (by decide +kernel) rfl rfl rfl rfl (by omega) rfl rfl (Nat.le_of_ble_eq_true rfl) (by show 107475 + 81 ≤ 148642; omega) (Nat.le_refl _) (by omega) ?_
  refine c_putR hX hin (idx := 110) (ci := 12) (k := 45) (o := 54) (q := 85) (rs := [none, none, none, none, some 55, none, none, none, some 56, some 57, some 58, some 59, some 60, none, none, some 61, some 62, some 63, some 64, some 65, some 66, some 67, some 68, some 69, some 70, some 71, none, some 72, none, none, none, some 73, some 74, none, some 75, some 76, some 77, some 78, some 79, some 80, some 81, none, some 82, some 83, some 84, none, none, none, none, none, none, none, none, none]) (rs' := [none, none, none, none, some 55, none, none, none, some 56, some 57, some 58, some 59, some 60, none, none, some 61, some 62, some 63, some 64, some 65, some 66, some 67, some 68, some 69, some 70, some 71, none, some 72, none, none, none, some 73, some 74, none, some 75, some 76, some 77, some 78, some 79, some 80, some 81, none, some 82, some 83, some 84, some 85, none, none, none, none, none, none, none, none]) (G' := gM n ly 86 [none, none, none, none, some 55, none, none, none, some 56, some 57, some 58, some 59, some 60, none, none, some 61, some 62, some 63, some 64, some 65, some 66, some 67, some 68, some 69, some 70, some 71, none, some 72, none, none, none, some 73, some 74, none, some 75, some 76, some 77, some 78, some 79, some 80, some 81, none, some 82, some 83, some 84, some 85, none, none, none, none, none, none, none, none]) (by decide +kernel) (by decide +kernel) rfl rfl rfl (fun _ => ⟨rfl, rfl⟩) rfl rfl rfl rfl ?_
  refine c_seg hX ok_X12_init (Nat.le_of_ble_eq_true rfl) (Nat.le_of_ble_eq_true rfl) 95 ⟨_, rfl, rfl, rfl, rfl, rfl⟩ ?_
  refine c_newa hX (atype := .int) (ft := .int) (ty := 0) (n := 81) (o := 86) (cells' := 32) (slots' := 107637) (G' := gM n ly 87 [none, none, none, none, some 55, none, none, none, some 56, some 57, some 58, some 59, some 60, none, none, some 61, some 62, some 63, some 64, some 65, some 66, some 67, some 68, some 69, some 70, some 71, none, some 72, none, none, none, some 73, some 74, none, some 75, some 76, some 77, some 78, some 79, some 80, some 81, none, some 82, some 83, some 84, some 85, none, none, none, none, none, none, none, none]) 253 (by decide +kernel) rfl rfl (Or.inl ⟨rfl, rfl⟩) (by decide +kernel) rfl rfl rfl rfl (by omega) rfl rfl (Nat.le_of_ble_eq_true rfl) (by show 107556 + 81 ≤ 148642; omega) (Nat.le_refl _) (by omega) ?_
  refine c_putR hX hin (idx := 113) (ci := 12) (k := 46) (o := 54) (q := 86) (rs := [none, none, none, none, some 55, none, none, none, some 56, some 57, some 58, some 59, some 60, none, none, some 61, some 62, some 63, some 64, some 65, some 66, some 67, some 68, some 69, some 70, some 71, none, some 72, none, none, none, some 73, some 74, none, some 75, some 76, some 77, some 78, some 79, some 80, some 81, none, some 82, some 83, some 84, some 85, none, none, none, none, none, none, none, none]) (rs' := [none, none, none, none, some 55, none, none, none, some 56, some 57, some 58, some 59, some 60, none, none, some 61, some 62, some 63, some 64, some 65, some 66, some 67, some 68, some 69, some 70, some 71, none, some 72, none, none, none, some 73, some 74, none, some 75, some 76, some 77, some 78, some 79, some 80, some 81, none, some 82, some 83, some 84, some 85, some 86, none, none, none, none, none, none, none]) (G' := gM n ly 87 [none, none, none, none, some 55, none, none, none, some 56, some 57, some 58, some 59, some 60, none, none, some 61, some 62, some 63, some 64, some 65, some 66, some 67, some 68, some 69, some 70, some 71, none, some 72, none, none, none, some 73, some 74, none, some 75, some 76, some 77, some 78, some 79, some 80, some 81, none, some 82, some 83, some 84, some 85, some 86, none, none, none, none, none, none, none]) (by decide +kernel) (by decide +kernel) rfl rfl rfl (fun _ => ⟨rfl, rfl⟩) rfl rfl rfl rfl ?_
  refine c_seg hX ok_X12_init (Nat.le_of_ble_eq_true rfl) (Nat.le_of_ble_eq_true rfl) 98 ⟨_, rfl, rfl, rfl, rfl, rfl⟩ ?_
  refine c_newa hX (atype := .int) (ft := .int) (ty := 0) (n := 2592) (o := 87) (cells' := 33) (slots' := 110229) (G' := gM n ly 88 [none, none, none, none, some 55, none, none, none, some 56, some 57, some 58, some 59, some 60, none, none, some 61, some 62, some 63, some 64, some 65, some 66, some 67, some 68, some 69, some 70, some 71, none, some 72, none, none, none, some 73, some 74, none, some 75, some 76, some 77, some 78, some 79, some 80, some 81, none, some 82, some 83, some 84, some 85, some 86, none, none, none, none, none, none, none]) 253 (by decide +kernel) rfl rfl (Or.inl ⟨rfl, rfl⟩) (by decide +kernel) rfl rfl rfl rfl (by omega) rfl rfl (Nat.le_of_ble_eq_true rfl) (by show 107637 + 2592 ≤ 148642; omega) (Nat.le_refl _) (by omega) ?_
  refine c_putR hX hin (idx := 116) (ci := 12) (k := 49) (o := 54) (q := 87) (rs := [none, none, none, none, some 55, none, none, none, some 56, some 57, some 58, some 59, some 60, none, none, some 61, some 62, some 63, some 64, some 65, some 66, some 67, some 68, some 69, some 70, some 71, none, some 72, none, none, none, some 73, some 74, none, some 75, some 76, some 77, some 78, some 79, some 80, some 81, none, some 82, some 83, some 84, some 85, some 86, none, none, none, none, none, none, none]) (rs' := [none, none, none, none, some 55, none, none, none, some 56, some 57, some 58, some 59, some 60, none, none, some 61, some 62, some 63, some 64, some 65, some 66, some 67, some 68, some 69, some 70, some 71, none, some 72, none, none, none, some 73, some 74, none, some 75, some 76, some 77, some 78, some 79, some 80, some 81, none, some 82, some 83, some 84, some 85, some 86, none, none, some 87, none, none, none, none]) (G' := gM n ly 88 [none, none, none, none, some 55, none, none, none, some 56, some 57, some 58, some 59, some 60, none, none, some 61, some 62, some 63, some 64, some 65, some 66, some 67, some 68, some 69, some 70, some 71, none, some 72, none, none, none, some 73, some 74, none, some 75, some 76, some 77, some 78, some 79, some 80, some 81, none, some 82, some 83, some 84, some 85, some 86, none, none, some 87, none, none, none, none]) (by decide +kernel) (by decide +kernel) rfl rfl rfl (fun _ => ⟨rfl, rfl⟩) rfl rfl rfl rfl ?_
  refine c_seg hX ok_X12_init (Nat.le_of_ble_eq_true rfl) (Nat.le_of_ble_eq_true rfl) 101 ⟨_, rfl, rfl, rfl, rfl, rfl⟩ ?_
  refine c_newa hX (atype := .int) (ft := .int) (ty := 0) (n := 5) (o := 88) (cells' := 34) (slots' := 110234) (G' := gM n ly 89 [none, none, none, none, some 55, none, none, none, some 56, some 57, some 58, some 59, some 60, none, none, some 61, some 62, some 63, some 64, some 65, some 66, some 67, some 68, some 69, some 70, some 71, none, some 72, none, none, none, some 73, some 74, none, some 75, some 76, some 77, some 78, some 79, some 80, some 81, none, some 82, some 83, some 84, some 85, some 86, none, none, some 87, none, none, none, none]) 253 (by decide +kernel) rfl rfl (Or.inl ⟨rfl, rfl⟩) (by decide +kernel) rfl rfl rfl rfl (by omega) rfl rfl (Nat.le_of_ble_eq_true rfl) (by show 110229 + 5 ≤ 148642; omega) (Nat.le_refl _) (by omega) ?_
  refine c_seg hX ok_X12_init (Nat.le_of_ble_eq_true rfl) (Nat.le_of_ble_eq_true rfl) 103 ⟨_, rfl, ⟨by decide, by show (0 : Int) < _; omega⟩, ⟨by decide, by show (1 : Int) < _; omega⟩, ⟨by decide, by show (2 : Int) < _; omega⟩, ⟨by decide, by show (3 : Int) < _; omega⟩, ⟨by decide, by show (4 : Int) < _; omega⟩, rfl, rfl, rfl, rfl⟩ ?_
  refine c_putR hX hin (idx := 119) (ci := 12) (k := 50) (o := 54) (q := 88) (rs := [none, none, none, none, some 55, none, none, none, some 56, some 57, some 58, some 59, some 60, none, none, some 61, some 62, some 63, some 64, some 65, some 66, some 67, some 68, some 69, some 70, some 71, none, some 72, none, none, none, some 73, some 74, none, some 75, some 76, some 77, some 78, some 79, some 80, some 81, none, some 82, some 83, some 84, some 85, some 86, none, none, some 87, none, none, none, none]) (rs' := [none, none, none, none, some 55, none, none, none, some 56, some 57, some 58, some 59, some 60, none, none, some 61, some 62, some 63, some 64, some 65, some 66, some 67, some 68, some 69, some 70, some 71, none, some 72, none, none, none, some 73, some 74, none, some 75, some 76, some 77, some 78, some 79, some 80, some 81, none, some 82, some 83, some 84, some 85, some 86, none, none, some 87, some 88, none, none, none]) (G' := gM n ly 89 [none, none, none, none, some 55, none, none, none, some 56, some 57, some 58, some 59, some 60, none, none, some 61, some 62, some 63, some 64, some 65, some 66, some 67, some 68, some 69, some 70, some 71, none, some 72, none, none, none, some 73, some 74, none, some 75, some 76, some 77, some 78, some 79, some 80, some 81, none, some 82, some 83, some 84, some 85, some 86, none, none, some 87, some 88, none, none, none]) (by decide +kernel) (by decide +kernel) rfl rfl rfl (fun _ => ⟨rfl, rfl⟩) rfl rfl rfl rfl ?_
  refine c_seg hX ok_X12_init (Nat.le_of_ble_eq_true rfl) (Nat.le_of_ble_eq_true rfl) 105 ⟨_, rfl, rfl, rfl, rfl, rfl⟩ ?_
  refine c_newa hX (atype := .int) (ft := .int) (ty := 0) (n := 19200) (o := 89) (cells' := 35) (slots' := 129434) (G' := gM n ly 90 [none, none, none, none, some 55, none, none, none, some 56, some 57, some 58, some 59, some 60, none, none, some 61, some 62, some 63, some 64, some 65, some 66, some 67, some 68, some 69, some 70, some 71, none, some 72, none, none, none, some 73, some 74, none, some 75, some 76, some 77, some 78, some 79, some 80, some 81, none, some 82, some 83, some 84, some 85, some 86, none, none, some 87, some 88, none, none, none]) 253 (by decide +kernel) rfl rfl (Or.inl ⟨rfl, rfl⟩) (by decide +kernel) rfl rfl rfl rfl (by omega) rfl rfl (Nat.le_of_ble_eq_true rfl) (by show 110234 + 19200 ≤ 148642; omega) (Nat.le_refl _) (by omega) ?_
  refine c_putR hX hin (idx := 122) (ci := 12) (k := 51) (o := 54) (q := 89) (rs := [none, none, none, none, some 55, none, none, none, some 56, some 57, some 58, some 59, some 60, none, none, some 61, some 62, some 63, some 64, some 65, some 66, some 67, some 68, some 69, some 70, some 71, none, some 72, none, none, none, some 73, some 74, none, some 75, some 76, some 77, some 78, some 79, some 80, some 81, none, some 82, some 83, some 84, some 85, some 86, none, none, some 87, some 88, none, none, none]) (rs' := [none, none, none, none, some 55, none, none, none, some 56, some 57, some 58, some 59, some 60, none, none, some 61, some 62, some 63, some 64, some 65, some 66, some 67, some 68, some 69, some 70, some 71, none, some 72, none, none, none, some 73, some 74, none, some 75, some 76, some 77, some 78, some 79, some 80, some 81, none, some 82, some 83, some 84, some 85, some 86, none, none, some 87, some 88, some 89, none, none]) (G' := gM n ly 90 [none, none, none, none, some 55, none, none, none, some 56, some 57, some 58, some 59, some 60, none, none, some 61, some 62, some 63, some 64, some 65, some 66, some 67, some 68, some 69, some 70, some 71, none, some 72, none, none, none, some 73, some 74, none, some 75, some 76, some 77, some 78, some 79, some 80, some 81, none, some 82, some 83, some 84, some 85, some 86, none, none, some 87, some 88, some 89, none, none]) (by decide +kernel) (by decide +kernel) rfl rfl rfl (fun _ => ⟨rfl, rfl⟩) rfl rfl rfl rfl ?_
  refine c_seg hX ok_X12_init (Nat.le_of_ble_eq_true rfl) (Nat.le_of_ble_eq_true rfl) 108 ⟨_, rfl, rfl, rfl, rfl, rfl⟩ ?_
  refine c_newa hX (atype := .int) (ft := .int) (ty := 0) (n := 19200) (o := 90) (cells' := 36) (slots' := 148634) (G' := gM n ly 91 [none, none, none, none, some 55, none, none, none, some 56, some 57, some 58, some 59, some 60, none, none, some 61, some 62, some 63, some 64, some 65, some 66, some 67, some 68, some 69, some 70, some 71, none, some 72, none, none, none, some 73, some 74, none, some 75, some 76, some 77, some 78, some 79, some 80, some 81, none, some 82, some 83, some 84, some 85, some 86, none, none, some 87, some 88, some 89, none, none]) 253 (by decide +kernel) rfl rfl (Or.inl ⟨rfl, rfl⟩) (by decide +kernel) rfl rfl rfl rfl (by omega) rfl rfl (Nat.le_of_ble_eq_true rfl) (by show 129434 + 19200 ≤ 148642; omega) (Nat.le_refl _) (by omega) ?_
  refine c_putR hX hin (idx := 125) (ci := 12) (k := 52) (o := 54) (q := 90) (rs := [none, none, none, none, some 55, none, none, none, some 56, some 57, some 58, some 59, some 60, none, none, some 61, some 62, some 63, some 64, some 65, some 66, some 67, some 68, some 69, some 70, some 71, none, some 72, none, none, none, some 73, some 74, none, some 75, some 76, some 77, some 78, some 79, some 80, some 81, none, some 82, some 83, some 84, some 85, some 86, none, none, some 87, some 88, some 89, none, none]) (rs' := [none, none, none, none, some 55, none, none, none, some 56, some 57, some 58, some 59, some 60, none, none, some 61, some 62, some 63, some 64, some 65, some 66, some 67, some 68, some 69, some 70, some 71, none, some 72, none, none, none, some 73, some 74, none, some 75, some 76, some 77, some 78, some 79, some 80, some 81, none, some 82, some 83, some 84, some 85, some 86, none, none, some 87, some 88, some 89, some 90, none]) (G' := gM n ly 91 [none, none, none, none, some 55, none, none, none, some 56, some 57, some 58, some 59, some 60, none, none, some 61, some 62, some 63, some 64, some 65, some 66, some 67, some 68, some 69, some 70, some 71, none, some 72, none, none, none, some 73, some 74, none, some 75, some 76, some 77, some 78, some 79, some 80, some 81, none, some 82, some 83, some 84, some 85, some 86, none, none, some 87, some 88, some 89, some 90, none]) (by decide +kernel) (by decide +kernel) rfl rfl rfl (fun _ => ⟨rfl, rfl⟩) rfl rfl rfl rfl ?_
  refine c_seg hX ok_X12_init (Nat.le_of_ble_eq_true rfl) (Nat.le_of_ble_eq_true rfl) 111 ⟨_, rfl, rfl, rfl, rfl, rfl⟩ ?_
  refine c_newa hX (atype := .int) (ft := .int) (ty := 0) (n := 8) (o := 91) (cells' := 37) (slots' := 148642) (G' := gM n ly 92 [none, none, none, none, some 55, none, none, none, some 56, some 57, some 58, some 59, some 60, none, none, some 61, some 62, some 63, some 64, some 65, some 66, some 67, some 68, some 69, some 70, some 71, none, some 72, none, none, none, some 73, some 74, none, some 75, some 76, some 77, some 78, some 79, some 80, some 81, none, some 82, some 83, some 84, some 85, some 86, none, none, some 87, some 88, some 89, some 90, none]) 253 (by decide +kernel) rfl rfl (Or.inl ⟨rfl, rfl⟩) (by decide +kernel) rfl rfl rfl rfl (by omega) rfl rfl (Nat.le_of_ble_eq_true rfl) (by show 148634 + 8 ≤ 148642; omega) (Nat.le_refl _) (by omega) ?_
  refine c_putR hX hin (idx := 128) (ci := 12) (k := 53) (o := 54) (q := 91) (rs := [none, none, none, none, some 55, none, none, none, some 56, some 57, some 58, some 59, some 60, none, none, some 61, some 62, some 63, some 64, some 65, some 66, some 67, some 68, some 69, some 70, some 71, none, some 72, none, none, none, some 73, some 74, none, some 75, some 76, some 77, some 78, some 79, some 80, some 81, none, some 82, some 83, some 84, some 85, some 86, none, none, some 87, some 88, some 89, some 90, none]) (rs' := [none, none, none, none, some 55, none, none, none, some 56, some 57, some 58, some 59, some 60, none, none, some 61, some 62, some 63, some 64, some 65, some 66, some 67, some 68, some 69, some 70, some 71, none, some 72, none, none, none, some 73, some 74, none, some 75, some 76, some 77, some 78, some 79, some 80, some 81, none, some 82, some 83, some 84, some 85, some 86, none, none, some 87, some 88, some 89, some 90, some 91]) (G' := gM n ly 92 [none, none, none, none, some 55, none, none, none, some 56, some 57, some 58, some 59, some 60, none, none, some 61, some 62, some 63, some 64, some 65, some 66, some 67, some 68, some 69, some 70, some 71, none, some 72, none, none, none, some 73, some 74, none, some 75, some 76, some 77, some 78, some 79, some 80, some 81, none, some 82, some 83, some 84, some 85, some 86, none, none, some 87, some 88, some 89, some 90, some 91]) (by decide +kernel) (by decide +kernel) rfl rfl rfl (fun _ => ⟨rfl, rfl⟩) rfl rfl rfl rfl ?_
  refine c_seg hX ok_X12_init (Nat.le_of_ble_eq_true rfl) (Nat.le_of_ble_eq_true rfl) 114 (b1 := 115) (L1 := [some (vR 54), some (vI a), some (vI b), some (vI c)]) (S1 := [vI w, vR 54]) (m1 := mzs (mset (mset (mset (mset (mset (mzs m [55, 56, 57, 58, 59, 60, 61, 62, 63, 64, 65, 66, 67, 68, 69, 70, 71, 72, 73, 74, 75, 76, 77, 78, 79, 80, 81, 82, 83, 84, 85, 86, 87, 88]) 88 0 1) 88 1 1) 88 2 1) 88 3 1) 88 4 0) [89, 90, 91]) ⟨_, rfl, ?_⟩ ?_
  · refine kCall_mono (c_X12_within _ _ a 2 9) (Nat.le_of_ble_eq_true rfl) ?_
    rintro _ _ ⟨rfl, rfl⟩
    rw [hw]
    exact ⟨rfl, rfl, rfl, rfl⟩
  refine c_putI hX hin (idx := 135) (ci := 12) (k := 1) (o := 54) (rs := [none, none, none, none, some 55, none, none, none, some 56, some 57, some 58, some 59, some 60, none, none, some 61, some 62, some 63, some 64, some 65, some 66, some 67, some 68, some 69, some 70, some 71, none, some 72, none, none, none, some 73, some 74, none, some 75, some 76, some 77, some 78, some 79, some 80, some 81, none, some 82, some 83, some 84, some 85, some 86, none, none, some 87, some 88, some 89, some 90, some 91]) (by decide +kernel) (by decide +kernel) rfl rfl rfl ?_
  refine c_seg hX ok_X12_init (Nat.le_of_ble_eq_true rfl) (Nat.le_of_ble_eq_true rfl) 116 (b1 := 117) (L1 := [some (vR 54), some (vI a), some (vI b), some (vI c)]) (S1 := [vI d, vR 54]) (m1 := fset (mzs (mset (mset (mset (mset (mset (mzs m [55, 56, 57, 58, 59, 60, 61, 62, 63, 64, 65, 66, 67, 68, 69, 70, 71, 72, 73, 74, 75, 76, 77, 78, 79, 80, 81, 82, 83, 84, 85, 86, 87, 88]) 88 0 1) 88 1 1) 88 2 1) 88 3 1) 88 4 0) [89, 90, 91]) 54 1 w) ⟨_, rfl, ?_⟩ ?_
  · refine kCall_mono (c_X12_within _ _ b 2 9) (Nat.le_of_ble_eq_true rfl) ?_
    rintro _ _ ⟨rfl, rfl⟩
    rw [hd]
    exact ⟨rfl, rfl, rfl, rfl⟩
  refine c_putI hX hin (idx := 139) (ci := 12) (k := 2) (o := 54) (rs := [none, none, none, none, some 55, none, none, none, some 56, some 57, some 58, some 59, some 60, none, none, some 61, some 62, some 63, some 64, some 65, some 66, some 67, some 68, some 69, some 70, some 71, none, some 72, none, none, none, some 73, some 74, none, some 75, some 76, some 77, some 78, some 79, some 80, some 81, none, some 82, some 83, some 84, some 85, some 86, none, none, some 87, some 88, some 89, some 90, some 91]) (by decide +kernel) (by decide +kernel) rfl rfl rfl ?_
  refine c_seg hX ok_X12_init (Nat.le_of_ble_eq_true rfl) (Nat.le_of_ble_eq_true rfl) 118 (b1 := 119) (L1 := [some (vR 54), some (vI a), some (vI b), some (vI c)]) (S1 := [vI l, vR 54]) (m1 := fset (fset (mzs (mset (mset (mset (mset (mset (mzs m [55, 56, 57, 58, 59, 60, 61, 62, 63, 64, 65, 66, 67, 68, 69, 70, 71, 72, 73, 74, 75, 76, 77, 78, 79, 80, 81, 82, 83, 84, 85, 86, 87, 88]) 88 0 1) 88 1 1) 88 2 1) 88 3 1) 88 4 0) [89, 90, 91]) 54 1 w) 54 2 d) ⟨_, rfl, ?_⟩ ?_
  · refine kCall_mono (c_X12_within _ _ c 1 4) (Nat.le_of_ble_eq_true rfl) ?_
    rintro _ _ ⟨rfl, rfl⟩
    rw [hl]
    exact ⟨rfl, rfl, rfl, rfl⟩
  refine c_putI hX hin (idx := 142) (ci := 12) (k := 3) (o := 54) (rs := [none, none, none, none, some 55, none, none, none, some 56, some 57, some 58, some 59, some 60, none, none, some 61, some 62, some 63, some 64, some 65, some 66, some 67, some 68, some 69, some 70, some 71, none, some 72, none, none, none, some 73, some 74, none, some 75, some 76, some 77, some 78, some 79, some 80, some 81, none, some 82, some 83, some 84, some 85, some 86, none, none, some 87, some 88, some 89, some 90, some 91]) (by decide +kernel) (by decide +kernel) rfl rfl rfl ?_
  refine hend _ _ _ (by decide +kernel) (show rS w d l m (fset (fset (fset (mzs (mset (mset (mset (mset (mset (mzs m [55, 56, 57, 58, 59, 60, 61, 62, 63, 64, 65, 66, 67, 68, 69, 70, 71, 72, 73, 74, 75, 76, 77, 78, 79, 80, 81, 82, 83, 84, 85, 86, 87, 88]) 88 0 1) 88 1 1) 88 2 1) 88 3 1) 88 4 0) [89, 90, 91]) 54 1 w) 54 2 d) 54 3 l) from ?_)
  generalize hE : mset (mset (mset (mset (mset (mzs m [55, 56, 57, 58, 59, 60, 61, 62, 63, 64, 65, 66, 67, 68, 69, 70, 71, 72, 73, 74, 75, 76, 77, 78, 79, 80, 81, 82, 83, 84, 85, 86, 87, 88]) 88 0 1) 88 1 1) 88 2 1) 88 3 1) 88 4 0 = mE
  have e1 : ∀ o, o ≠ 88 → 55 ≤ o → o < 88 → ∀ i, mE o i = 0 := fun o o1 o2 o3 i => by rw [← hE, k_mset_ne o1, k_mset_ne o1, k_mset_ne o1, k_mset_ne o1, k_mset_ne o1]; exact mzs_at i (by simp; omega)
  have e2 : ∀ o, o < 55 ∨ 92 ≤ o → mE o = m o := fun o o1 => by rw [← hE, k_mset_ne (by omega), k_mset_ne (by omega), k_mset_ne (by omega), k_mset_ne (by omega), k_mset_ne (by omega), mzs_ne (by simp; omega)]
  have e3 : mE 88 0 = 1 ∧ mE 88 1 = 1 ∧ mE 88 2 = 1 ∧ mE 88 3 = 1 ∧ mE 88 4 = 0 := by rw [← hE]; exact ⟨rfl, rfl, rfl, rfl, rfl⟩
  have e4 : ∀ o, o ≠ 89 → o ≠ 90 → o ≠ 91 → mzs mE [89, 90, 91] o = mE o := fun o o1 o2 o3 => mzs_ne (by simp [o1, o2, o3])
  unfold fset
  refine ⟨by rfl, by rfl, by rfl, fun j j1 j2 j3 => ?_, fun o o1 o2 o3 i => ?_, ?_, fun o o1 => ?_⟩
  · rw [k_mset_at]
    refine (if_neg j3).trans ?_
    rw [k_mset_at]
    refine (if_neg j2).trans ?_
    rw [k_mset_at]
    refine (if_neg j1).trans ?_
    rw [e4 54 (by decide) (by decide) (by decide), e2 54 (by decide)]
    exact hz j
  · rw [k_mset_ne (by omega), k_mset_ne (by omega), k_mset_ne (by omega)]
    by_cases hk : o < 88
    · rw [e4 o (by omega) (by omega) (by omega)]
      exact e1 o o3 o1 hk i
    · exact mzs_at i (by simp; omega)
  · exact e3
  · rw [k_mset_ne (by omega), k_mset_ne (by omega), k_mset_ne (by omega), e4 o (by omega) (by omega) (by omega), e2 o (by omega)]
end
