section
-- ===== PART A: goes FIRST, ahead of the names: the tables' words, and 'selects' of the private methods out of them =====
/-- a private method of a class that the tables say can be made, by its rows of tables_1 -/
def lw_okq (q : MethodName × Nat) : Prop := (q.1.cls ≠ "java/lang/invoke/MethodHandle" ∧ q.1.cls ≠ "java/lang/invoke/VarHandle") ∧ Cond.instantiable q.1.cls q.2 ∈ tables_1 ∧ Cond.privateMethod q.1 ∈ tables_1 ∧ Cond.instanceMethod q.1 ∈ tables_1
theorem lw_p0 : lw_okq (⟨"CopperBoard$Tape", "readSetting", "()Z"⟩, 6) := ⟨⟨by decide +kernel, by decide +kernel⟩, List.mem_of_getElem? (i := 116) (by decide +kernel), List.mem_of_getElem? (i := 553) (by decide +kernel), List.mem_of_getElem? (i := 554) (by decide +kernel)⟩
theorem lw_p1 : lw_okq (⟨"CopperBoard$Tape", "skipBlanks", "()V"⟩, 6) := ⟨⟨by decide +kernel, by decide +kernel⟩, List.mem_of_getElem? (i := 116) (by decide +kernel), List.mem_of_getElem? (i := 557) (by decide +kernel), List.mem_of_getElem? (i := 558) (by decide +kernel)⟩
theorem lw_p2 : lw_okq (⟨"CopperBoard$Tape", "kindHere", "()I"⟩, 6) := ⟨⟨by decide +kernel, by decide +kernel⟩, List.mem_of_getElem? (i := 116) (by decide +kernel), List.mem_of_getElem? (i := 561) (by decide +kernel), List.mem_of_getElem? (i := 562) (by decide +kernel)⟩
theorem lw_p3 : lw_okq (⟨"CopperBoard$Tape", "readLayers", "()Z"⟩, 6) := ⟨⟨by decide +kernel, by decide +kernel⟩, List.mem_of_getElem? (i := 116) (by decide +kernel), List.mem_of_getElem? (i := 567) (by decide +kernel), List.mem_of_getElem? (i := 568) (by decide +kernel)⟩
theorem lw_p4 : lw_okq (⟨"CopperBoard$Tape", "digitHere", "()I"⟩, 6) := ⟨⟨by decide +kernel, by decide +kernel⟩, List.mem_of_getElem? (i := 116) (by decide +kernel), List.mem_of_getElem? (i := 571) (by decide +kernel), List.mem_of_getElem? (i := 572) (by decide +kernel)⟩
theorem lw_p5 : lw_okq (⟨"CopperBoard$Tape", "readNumber", "(I)Z"⟩, 6) := ⟨⟨by decide +kernel, by decide +kernel⟩, List.mem_of_getElem? (i := 116) (by decide +kernel), List.mem_of_getElem? (i := 575) (by decide +kernel), List.mem_of_getElem? (i := 576) (by decide +kernel)⟩
theorem lw_p6 : lw_okq (⟨"CopperBoard", "isNet", "(I)Z"⟩, 11) := ⟨⟨by decide +kernel, by decide +kernel⟩, List.mem_of_getElem? (i := 24) (by decide +kernel), List.mem_of_getElem? (i := 610) (by decide +kernel), List.mem_of_getElem? (i := 611) (by decide +kernel)⟩
theorem lw_p7 : lw_okq (⟨"CopperBoard$Nets", "join", "([I[IIII)I"⟩, 15) := ⟨⟨by decide +kernel, by decide +kernel⟩, List.mem_of_getElem? (i := 143) (by decide +kernel), List.mem_of_getElem? (i := 649) (by decide +kernel), List.mem_of_getElem? (i := 650) (by decide +kernel)⟩
theorem lw_p8 : lw_okq (⟨"CopperBoard$Room", "partOthers", "(I)V"⟩, 10) := ⟨⟨by decide +kernel, by decide +kernel⟩, List.mem_of_getElem? (i := 221) (by decide +kernel), List.mem_of_getElem? (i := 676) (by decide +kernel), List.mem_of_getElem? (i := 677) (by decide +kernel)⟩
theorem lw_p9 : lw_okq (⟨"CopperBoard$Room", "spreadAll", "(III)V"⟩, 10) := ⟨⟨by decide +kernel, by decide +kernel⟩, List.mem_of_getElem? (i := 221) (by decide +kernel), List.mem_of_getElem? (i := 686) (by decide +kernel), List.mem_of_getElem? (i := 687) (by decide +kernel)⟩
theorem lw_p10 : lw_okq (⟨"CopperBoard$Room", "spread", "(IIII)V"⟩, 10) := ⟨⟨by decide +kernel, by decide +kernel⟩, List.mem_of_getElem? (i := 221) (by decide +kernel), List.mem_of_getElem? (i := 690) (by decide +kernel), List.mem_of_getElem? (i := 691) (by decide +kernel)⟩
theorem lw_p11 : lw_okq (⟨"CopperBoard$Room", "isClear", "(II)Z"⟩, 10) := ⟨⟨by decide +kernel, by decide +kernel⟩, List.mem_of_getElem? (i := 221) (by decide +kernel), List.mem_of_getElem? (i := 699) (by decide +kernel), List.mem_of_getElem? (i := 700) (by decide +kernel)⟩
theorem lw_p12 : lw_okq (⟨"CopperBoard$Router", "markJoined", "(I)V"⟩, 15) := ⟨⟨by decide +kernel, by decide +kernel⟩, List.mem_of_getElem? (i := 270) (by decide +kernel), List.mem_of_getElem? (i := 745) (by decide +kernel), List.mem_of_getElem? (i := 746) (by decide +kernel)⟩
theorem lw_p13 : lw_okq (⟨"CopperBoard$Router", "search", "(I)Z"⟩, 15) := ⟨⟨by decide +kernel, by decide +kernel⟩, List.mem_of_getElem? (i := 270) (by decide +kernel), List.mem_of_getElem? (i := 755) (by decide +kernel), List.mem_of_getElem? (i := 756) (by decide +kernel)⟩
theorem lw_p14 : lw_okq (⟨"CopperBoard$Router", "offer", "(II)V"⟩, 15) := ⟨⟨by decide +kernel, by decide +kernel⟩, List.mem_of_getElem? (i := 270) (by decide +kernel), List.mem_of_getElem? (i := 761) (by decide +kernel), List.mem_of_getElem? (i := 762) (by decide +kernel)⟩
theorem lw_p15 : lw_okq (⟨"CopperBoard$Router", "takeLeast", "()I"⟩, 15) := ⟨⟨by decide +kernel, by decide +kernel⟩, List.mem_of_getElem? (i := 270) (by decide +kernel), List.mem_of_getElem? (i := 765) (by decide +kernel), List.mem_of_getElem? (i := 766) (by decide +kernel)⟩
def lw_privs_1 : List (MethodName × Nat) := [(⟨"CopperBoard$Tape", "readSetting", "()Z"⟩, 6), (⟨"CopperBoard$Tape", "skipBlanks", "()V"⟩, 6), (⟨"CopperBoard$Tape", "kindHere", "()I"⟩, 6), (⟨"CopperBoard$Tape", "readLayers", "()Z"⟩, 6), (⟨"CopperBoard$Tape", "digitHere", "()I"⟩, 6), (⟨"CopperBoard$Tape", "readNumber", "(I)Z"⟩, 6), (⟨"CopperBoard", "isNet", "(I)Z"⟩, 11), (⟨"CopperBoard$Nets", "join", "([I[IIII)I"⟩, 15), (⟨"CopperBoard$Room", "partOthers", "(I)V"⟩, 10), (⟨"CopperBoard$Room", "spreadAll", "(III)V"⟩, 10), (⟨"CopperBoard$Room", "spread", "(IIII)V"⟩, 10), (⟨"CopperBoard$Room", "isClear", "(II)Z"⟩, 10), (⟨"CopperBoard$Router", "markJoined", "(I)V"⟩, 15), (⟨"CopperBoard$Router", "search", "(I)Z"⟩, 15), (⟨"CopperBoard$Router", "offer", "(II)V"⟩, 15), (⟨"CopperBoard$Router", "takeLeast", "()I"⟩, 15)]
theorem lw_r1 : ∀ q ∈ lw_privs_1, lw_okq q := List.forall_mem_cons.mpr ⟨lw_p0, List.forall_mem_cons.mpr ⟨lw_p1, List.forall_mem_cons.mpr ⟨lw_p2, List.forall_mem_cons.mpr ⟨lw_p3, List.forall_mem_cons.mpr ⟨lw_p4, List.forall_mem_cons.mpr ⟨lw_p5, List.forall_mem_cons.mpr ⟨lw_p6, List.forall_mem_cons.mpr ⟨lw_p7, List.forall_mem_cons.mpr ⟨lw_p8, List.forall_mem_cons.mpr ⟨lw_p9, List.forall_mem_cons.mpr ⟨lw_p10, List.forall_mem_cons.mpr ⟨lw_p11, List.forall_mem_cons.mpr ⟨lw_p12, List.forall_mem_cons.mpr ⟨lw_p13, List.forall_mem_cons.mpr ⟨lw_p14, List.forall_mem_cons.mpr ⟨lw_p15, fun _ h => absurd h List.not_mem_nil⟩⟩⟩⟩⟩⟩⟩⟩⟩⟩⟩⟩⟩⟩⟩⟩
theorem lw_p16 : lw_okq (⟨"CopperBoard$Router", "comeFrom", "(I)V"⟩, 15) := ⟨⟨by decide +kernel, by decide +kernel⟩, List.mem_of_getElem? (i := 270) (by decide +kernel), List.mem_of_getElem? (i := 769) (by decide +kernel), List.mem_of_getElem? (i := 770) (by decide +kernel)⟩
theorem lw_p17 : lw_okq (⟨"CopperBoard$Router", "bendFrom", "(II)I"⟩, 15) := ⟨⟨by decide +kernel, by decide +kernel⟩, List.mem_of_getElem? (i := 270) (by decide +kernel), List.mem_of_getElem? (i := 774) (by decide +kernel), List.mem_of_getElem? (i := 775) (by decide +kernel)⟩
theorem lw_p18 : lw_okq (⟨"CopperBoard$Router", "walk", "(II)V"⟩, 15) := ⟨⟨by decide +kernel, by decide +kernel⟩, List.mem_of_getElem? (i := 270) (by decide +kernel), List.mem_of_getElem? (i := 778) (by decide +kernel), List.mem_of_getElem? (i := 779) (by decide +kernel)⟩
theorem lw_p19 : lw_okq (⟨"CopperBoard$Router", "firstMove", "(II)I"⟩, 15) := ⟨⟨by decide +kernel, by decide +kernel⟩, List.mem_of_getElem? (i := 270) (by decide +kernel), List.mem_of_getElem? (i := 782) (by decide +kernel), List.mem_of_getElem? (i := 783) (by decide +kernel)⟩
theorem lw_p20 : lw_okq (⟨"CopperBoard$Router", "laneBehind", "(II)I"⟩, 15) := ⟨⟨by decide +kernel, by decide +kernel⟩, List.mem_of_getElem? (i := 270) (by decide +kernel), List.mem_of_getElem? (i := 786) (by decide +kernel), List.mem_of_getElem? (i := 787) (by decide +kernel)⟩
theorem lw_p21 : lw_okq (⟨"CopperBoard$Nets", "anyMove", "([III)Z"⟩, 15) := ⟨⟨by decide +kernel, by decide +kernel⟩, List.mem_of_getElem? (i := 143) (by decide +kernel), List.mem_of_getElem? (i := 818) (by decide +kernel), List.mem_of_getElem? (i := 819) (by decide +kernel)⟩
theorem lw_p22 : lw_okq (⟨"CopperBoard$Presser", "layTurn", "(I)Z"⟩, 6) := ⟨⟨by decide +kernel, by decide +kernel⟩, List.mem_of_getElem? (i := 323) (by decide +kernel), List.mem_of_getElem? (i := 854) (by decide +kernel), List.mem_of_getElem? (i := 855) (by decide +kernel)⟩
theorem lw_p23 : lw_okq (⟨"CopperBoard$Presser", "warmCrowded", "()Z"⟩, 6) := ⟨⟨by decide +kernel, by decide +kernel⟩, List.mem_of_getElem? (i := 323) (by decide +kernel), List.mem_of_getElem? (i := 868) (by decide +kernel), List.mem_of_getElem? (i := 869) (by decide +kernel)⟩
theorem lw_p24 : lw_okq (⟨"CopperBoard$Chooser", "isWall", "(I)Z"⟩, 4) := ⟨⟨by decide +kernel, by decide +kernel⟩, List.mem_of_getElem? (i := 348) (by decide +kernel), List.mem_of_getElem? (i := 886) (by decide +kernel), List.mem_of_getElem? (i := 887) (by decide +kernel)⟩
theorem lw_p25 : lw_okq (⟨"CopperBoard$Chooser", "othersWithTraces", "(I)I"⟩, 4) := ⟨⟨by decide +kernel, by decide +kernel⟩, List.mem_of_getElem? (i := 348) (by decide +kernel), List.mem_of_getElem? (i := 900) (by decide +kernel), List.mem_of_getElem? (i := 901) (by decide +kernel)⟩
theorem lw_p26 : lw_okq (⟨"CopperBoard", "areNets", "(I)Z"⟩, 11) := ⟨⟨by decide +kernel, by decide +kernel⟩, List.mem_of_getElem? (i := 24) (by decide +kernel), List.mem_of_getElem? (i := 919) (by decide +kernel), List.mem_of_getElem? (i := 920) (by decide +kernel)⟩
theorem lw_p27 : lw_okq (⟨"CopperBoard$Trial", "openCells", "(II)I"⟩, 11) := ⟨⟨by decide +kernel, by decide +kernel⟩, List.mem_of_getElem? (i := 367) (by decide +kernel), List.mem_of_getElem? (i := 932) (by decide +kernel), List.mem_of_getElem? (i := 933) (by decide +kernel)⟩
theorem lw_p28 : lw_okq (⟨"CopperBoard$Trial", "laterCanJoin", "(II)Z"⟩, 11) := ⟨⟨by decide +kernel, by decide +kernel⟩, List.mem_of_getElem? (i := 367) (by decide +kernel), List.mem_of_getElem? (i := 938) (by decide +kernel), List.mem_of_getElem? (i := 939) (by decide +kernel)⟩
theorem lw_p29 : lw_okq (⟨"CopperBoard$Trial", "openAt", "(II)I"⟩, 11) := ⟨⟨by decide +kernel, by decide +kernel⟩, List.mem_of_getElem? (i := 367) (by decide +kernel), List.mem_of_getElem? (i := 943) (by decide +kernel), List.mem_of_getElem? (i := 944) (by decide +kernel)⟩
theorem lw_p30 : lw_okq (⟨"CopperBoard$Trial", "widened", "(II)I"⟩, 11) := ⟨⟨by decide +kernel, by decide +kernel⟩, List.mem_of_getElem? (i := 367) (by decide +kernel), List.mem_of_getElem? (i := 949) (by decide +kernel), List.mem_of_getElem? (i := 950) (by decide +kernel)⟩
theorem lw_p31 : lw_okq (⟨"CopperBoard$Trial", "canReach", "(III)Z"⟩, 11) := ⟨⟨by decide +kernel, by decide +kernel⟩, List.mem_of_getElem? (i := 367) (by decide +kernel), List.mem_of_getElem? (i := 953) (by decide +kernel), List.mem_of_getElem? (i := 954) (by decide +kernel)⟩
def lw_privs_2 : List (MethodName × Nat) := [(⟨"CopperBoard$Router", "comeFrom", "(I)V"⟩, 15), (⟨"CopperBoard$Router", "bendFrom", "(II)I"⟩, 15), (⟨"CopperBoard$Router", "walk", "(II)V"⟩, 15), (⟨"CopperBoard$Router", "firstMove", "(II)I"⟩, 15), (⟨"CopperBoard$Router", "laneBehind", "(II)I"⟩, 15), (⟨"CopperBoard$Nets", "anyMove", "([III)Z"⟩, 15), (⟨"CopperBoard$Presser", "layTurn", "(I)Z"⟩, 6), (⟨"CopperBoard$Presser", "warmCrowded", "()Z"⟩, 6), (⟨"CopperBoard$Chooser", "isWall", "(I)Z"⟩, 4), (⟨"CopperBoard$Chooser", "othersWithTraces", "(I)I"⟩, 4), (⟨"CopperBoard", "areNets", "(I)Z"⟩, 11), (⟨"CopperBoard$Trial", "openCells", "(II)I"⟩, 11), (⟨"CopperBoard$Trial", "laterCanJoin", "(II)Z"⟩, 11), (⟨"CopperBoard$Trial", "openAt", "(II)I"⟩, 11), (⟨"CopperBoard$Trial", "widened", "(II)I"⟩, 11), (⟨"CopperBoard$Trial", "canReach", "(III)Z"⟩, 11)]
theorem lw_r2 : ∀ q ∈ lw_privs_2, lw_okq q := List.forall_mem_cons.mpr ⟨lw_p16, List.forall_mem_cons.mpr ⟨lw_p17, List.forall_mem_cons.mpr ⟨lw_p18, List.forall_mem_cons.mpr ⟨lw_p19, List.forall_mem_cons.mpr ⟨lw_p20, List.forall_mem_cons.mpr ⟨lw_p21, List.forall_mem_cons.mpr ⟨lw_p22, List.forall_mem_cons.mpr ⟨lw_p23, List.forall_mem_cons.mpr ⟨lw_p24, List.forall_mem_cons.mpr ⟨lw_p25, List.forall_mem_cons.mpr ⟨lw_p26, List.forall_mem_cons.mpr ⟨lw_p27, List.forall_mem_cons.mpr ⟨lw_p28, List.forall_mem_cons.mpr ⟨lw_p29, List.forall_mem_cons.mpr ⟨lw_p30, List.forall_mem_cons.mpr ⟨lw_p31, fun _ h => absurd h List.not_mem_nil⟩⟩⟩⟩⟩⟩⟩⟩⟩⟩⟩⟩⟩⟩⟩⟩
theorem lw_p32 : lw_okq (⟨"CopperBoard$Trial", "oneMove", "(I)I"⟩, 11) := ⟨⟨by decide +kernel, by decide +kernel⟩, List.mem_of_getElem? (i := 367) (by decide +kernel), List.mem_of_getElem? (i := 957) (by decide +kernel), List.mem_of_getElem? (i := 958) (by decide +kernel)⟩
theorem lw_p33 : lw_okq (⟨"CopperBoard$Trial", "findWays", "(II)Z"⟩, 11) := ⟨⟨by decide +kernel, by decide +kernel⟩, List.mem_of_getElem? (i := 367) (by decide +kernel), List.mem_of_getElem? (i := 961) (by decide +kernel), List.mem_of_getElem? (i := 962) (by decide +kernel)⟩
theorem lw_p34 : lw_okq (⟨"CopperBoard$Trial", "extend", "(IIII)Z"⟩, 11) := ⟨⟨by decide +kernel, by decide +kernel⟩, List.mem_of_getElem? (i := 367) (by decide +kernel), List.mem_of_getElem? (i := 965) (by decide +kernel), List.mem_of_getElem? (i := 966) (by decide +kernel)⟩
theorem lw_p35 : lw_okq (⟨"CopperBoard$Trail", "follow", "(I)V"⟩, 6) := ⟨⟨by decide +kernel, by decide +kernel⟩, List.mem_of_getElem? (i := 469) (by decide +kernel), List.mem_of_getElem? (i := 1003) (by decide +kernel), List.mem_of_getElem? (i := 1004) (by decide +kernel)⟩
theorem lw_p36 : lw_okq (⟨"CopperBoard$Trail", "goBeside", "(IIII)Z"⟩, 6) := ⟨⟨by decide +kernel, by decide +kernel⟩, List.mem_of_getElem? (i := 469) (by decide +kernel), List.mem_of_getElem? (i := 1014) (by decide +kernel), List.mem_of_getElem? (i := 1015) (by decide +kernel)⟩
theorem lw_p37 : lw_okq (⟨"CopperBoard$Trail", "isOpen", "(II)Z"⟩, 6) := ⟨⟨by decide +kernel, by decide +kernel⟩, List.mem_of_getElem? (i := 469) (by decide +kernel), List.mem_of_getElem? (i := 1018) (by decide +kernel), List.mem_of_getElem? (i := 1019) (by decide +kernel)⟩
theorem lw_p38 : lw_okq (⟨"CopperBoard", "isLayer", "(I)Z"⟩, 11) := ⟨⟨by decide +kernel, by decide +kernel⟩, List.mem_of_getElem? (i := 24) (by decide +kernel), List.mem_of_getElem? (i := 1041) (by decide +kernel), List.mem_of_getElem? (i := 1042) (by decide +kernel)⟩
theorem lw_p39 : lw_okq (⟨"CopperBoard$Planes", "partPlane", "(I)V"⟩, 5) := ⟨⟨by decide +kernel, by decide +kernel⟩, List.mem_of_getElem? (i := 407) (by decide +kernel), List.mem_of_getElem? (i := 1054) (by decide +kernel), List.mem_of_getElem? (i := 1055) (by decide +kernel)⟩
theorem lw_p40 : lw_okq (⟨"CopperBoard$Planes", "hasOwn", "(I)Z"⟩, 5) := ⟨⟨by decide +kernel, by decide +kernel⟩, List.mem_of_getElem? (i := 407) (by decide +kernel), List.mem_of_getElem? (i := 1060) (by decide +kernel), List.mem_of_getElem? (i := 1061) (by decide +kernel)⟩
theorem lw_p41 : lw_okq (⟨"CopperBoard$Planes", "necks", "(I)I"⟩, 5) := ⟨⟨by decide +kernel, by decide +kernel⟩, List.mem_of_getElem? (i := 407) (by decide +kernel), List.mem_of_getElem? (i := 1064) (by decide +kernel), List.mem_of_getElem? (i := 1065) (by decide +kernel)⟩
theorem lw_p42 : lw_okq (⟨"CopperBoard$Checks", "judgeVia", "(II)V"⟩, 9) := ⟨⟨by decide +kernel, by decide +kernel⟩, List.mem_of_getElem? (i := 429) (by decide +kernel), List.mem_of_getElem? (i := 1096) (by decide +kernel), List.mem_of_getElem? (i := 1097) (by decide +kernel)⟩
theorem lw_p43 : lw_okq (⟨"CopperBoard$Nets", "settle", "(I)V"⟩, 15) := ⟨⟨by decide +kernel, by decide +kernel⟩, List.mem_of_getElem? (i := 143) (by decide +kernel), List.mem_of_getElem? (i := 1123) (by decide +kernel), List.mem_of_getElem? (i := 1124) (by decide +kernel)⟩
theorem lw_p44 : lw_okq (⟨"CopperBoard$Chooser", "layWith", "(II)Z"⟩, 4) := ⟨⟨by decide +kernel, by decide +kernel⟩, List.mem_of_getElem? (i := 348) (by decide +kernel), List.mem_of_getElem? (i := 1127) (by decide +kernel), List.mem_of_getElem? (i := 1128) (by decide +kernel)⟩
theorem lw_p45 : lw_okq (⟨"CopperBoard$Checks", "joinFrom", "(I)I"⟩, 9) := ⟨⟨by decide +kernel, by decide +kernel⟩, List.mem_of_getElem? (i := 429) (by decide +kernel), List.mem_of_getElem? (i := 1142) (by decide +kernel), List.mem_of_getElem? (i := 1143) (by decide +kernel)⟩
theorem lw_p46 : lw_okq (⟨"CopperBoard$Checks", "allMovesAt", "(I)I"⟩, 9) := ⟨⟨by decide +kernel, by decide +kernel⟩, List.mem_of_getElem? (i := 429) (by decide +kernel), List.mem_of_getElem? (i := 1146) (by decide +kernel), List.mem_of_getElem? (i := 1147) (by decide +kernel)⟩
theorem lw_p47 : lw_okq (⟨"CopperBoard$Checks", "areJoined", "(I)Z"⟩, 9) := ⟨⟨by decide +kernel, by decide +kernel⟩, List.mem_of_getElem? (i := 429) (by decide +kernel), List.mem_of_getElem? (i := 1154) (by decide +kernel), List.mem_of_getElem? (i := 1155) (by decide +kernel)⟩
def lw_privs_3 : List (MethodName × Nat) := [(⟨"CopperBoard$Trial", "oneMove", "(I)I"⟩, 11), (⟨"CopperBoard$Trial", "findWays", "(II)Z"⟩, 11), (⟨"CopperBoard$Trial", "extend", "(IIII)Z"⟩, 11), (⟨"CopperBoard$Trail", "follow", "(I)V"⟩, 6), (⟨"CopperBoard$Trail", "goBeside", "(IIII)Z"⟩, 6), (⟨"CopperBoard$Trail", "isOpen", "(II)Z"⟩, 6), (⟨"CopperBoard", "isLayer", "(I)Z"⟩, 11), (⟨"CopperBoard$Planes", "partPlane", "(I)V"⟩, 5), (⟨"CopperBoard$Planes", "hasOwn", "(I)Z"⟩, 5), (⟨"CopperBoard$Planes", "necks", "(I)I"⟩, 5), (⟨"CopperBoard$Checks", "judgeVia", "(II)V"⟩, 9), (⟨"CopperBoard$Nets", "settle", "(I)V"⟩, 15), (⟨"CopperBoard$Chooser", "layWith", "(II)Z"⟩, 4), (⟨"CopperBoard$Checks", "joinFrom", "(I)I"⟩, 9), (⟨"CopperBoard$Checks", "allMovesAt", "(I)I"⟩, 9), (⟨"CopperBoard$Checks", "areJoined", "(I)Z"⟩, 9)]
theorem lw_r3 : ∀ q ∈ lw_privs_3, lw_okq q := List.forall_mem_cons.mpr ⟨lw_p32, List.forall_mem_cons.mpr ⟨lw_p33, List.forall_mem_cons.mpr ⟨lw_p34, List.forall_mem_cons.mpr ⟨lw_p35, List.forall_mem_cons.mpr ⟨lw_p36, List.forall_mem_cons.mpr ⟨lw_p37, List.forall_mem_cons.mpr ⟨lw_p38, List.forall_mem_cons.mpr ⟨lw_p39, List.forall_mem_cons.mpr ⟨lw_p40, List.forall_mem_cons.mpr ⟨lw_p41, List.forall_mem_cons.mpr ⟨lw_p42, List.forall_mem_cons.mpr ⟨lw_p43, List.forall_mem_cons.mpr ⟨lw_p44, List.forall_mem_cons.mpr ⟨lw_p45, List.forall_mem_cons.mpr ⟨lw_p46, List.forall_mem_cons.mpr ⟨lw_p47, fun _ h => absurd h List.not_mem_nil⟩⟩⟩⟩⟩⟩⟩⟩⟩⟩⟩⟩⟩⟩⟩⟩
theorem lw_p48 : lw_okq (⟨"CopperBoard$Checks", "isNewPart", "(II)Z"⟩, 9) := ⟨⟨by decide +kernel, by decide +kernel⟩, List.mem_of_getElem? (i := 429) (by decide +kernel), List.mem_of_getElem? (i := 1162) (by decide +kernel), List.mem_of_getElem? (i := 1163) (by decide +kernel)⟩
theorem lw_p49 : lw_okq (⟨"CopperBoard$Checks", "isBeside", "(III)Z"⟩, 9) := ⟨⟨by decide +kernel, by decide +kernel⟩, List.mem_of_getElem? (i := 429) (by decide +kernel), List.mem_of_getElem? (i := 1200) (by decide +kernel), List.mem_of_getElem? (i := 1201) (by decide +kernel)⟩
theorem lw_p50 : lw_okq (⟨"CopperBoard$Trail", "touches", "(II)Z"⟩, 6) := ⟨⟨by decide +kernel, by decide +kernel⟩, List.mem_of_getElem? (i := 469) (by decide +kernel), List.mem_of_getElem? (i := 1208) (by decide +kernel), List.mem_of_getElem? (i := 1209) (by decide +kernel)⟩
theorem lw_p51 : lw_okq (⟨"CopperBoard$Presser", "withPins", "()I"⟩, 6) := ⟨⟨by decide +kernel, by decide +kernel⟩, List.mem_of_getElem? (i := 323) (by decide +kernel), List.mem_of_getElem? (i := 1226) (by decide +kernel), List.mem_of_getElem? (i := 1227) (by decide +kernel)⟩
theorem lw_p52 : lw_okq (⟨"CopperBoard$Presser", "wholeFigure", "(Z)I"⟩, 6) := ⟨⟨by decide +kernel, by decide +kernel⟩, List.mem_of_getElem? (i := 323) (by decide +kernel), List.mem_of_getElem? (i := 1230) (by decide +kernel), List.mem_of_getElem? (i := 1231) (by decide +kernel)⟩
theorem lw_p53 : lw_okq (⟨"CopperBoard$Chooser", "fewestByRows", "(I)I"⟩, 4) := ⟨⟨by decide +kernel, by decide +kernel⟩, List.mem_of_getElem? (i := 348) (by decide +kernel), List.mem_of_getElem? (i := 1253) (by decide +kernel), List.mem_of_getElem? (i := 1254) (by decide +kernel)⟩
theorem lw_p54 : lw_okq (⟨"CopperBoard$Chooser", "layFlat", "(II)Z"⟩, 4) := ⟨⟨by decide +kernel, by decide +kernel⟩, List.mem_of_getElem? (i := 348) (by decide +kernel), List.mem_of_getElem? (i := 1258) (by decide +kernel), List.mem_of_getElem? (i := 1259) (by decide +kernel)⟩
theorem lw_p55 : lw_okq (⟨"CopperBoard", "splitSheet", "(IIIZ)I"⟩, 11) := ⟨⟨by decide +kernel, by decide +kernel⟩, List.mem_of_getElem? (i := 24) (by decide +kernel), List.mem_of_getElem? (i := 1275) (by decide +kernel), List.mem_of_getElem? (i := 1276) (by decide +kernel)⟩
theorem lw_p56 : lw_okq (⟨"java/lang/Throwable", "fillInStackTrace", "(I)Ljava/lang/Throwable;"⟩, 6) := ⟨⟨by decide +kernel, by decide +kernel⟩, List.mem_of_getElem? (i := 1342) (by decide +kernel), List.mem_of_getElem? (i := 1340) (by decide +kernel), List.mem_of_getElem? (i := 1341) (by decide +kernel)⟩
theorem lw_p57 : lw_okq (⟨"CopperBoardModel", "readSort", "(I)I"⟩, 54) := ⟨⟨by decide +kernel, by decide +kernel⟩, List.mem_of_getElem? (i := 1372) (by decide +kernel), List.mem_of_getElem? (i := 1566) (by decide +kernel), List.mem_of_getElem? (i := 1567) (by decide +kernel)⟩
theorem lw_p58 : lw_okq (⟨"CopperBoardModel", "setting", "(I)V"⟩, 54) := ⟨⟨by decide +kernel, by decide +kernel⟩, List.mem_of_getElem? (i := 1372) (by decide +kernel), List.mem_of_getElem? (i := 1570) (by decide +kernel), List.mem_of_getElem? (i := 1571) (by decide +kernel)⟩
theorem lw_p59 : lw_okq (⟨"CopperBoardModel", "look", "()I"⟩, 54) := ⟨⟨by decide +kernel, by decide +kernel⟩, List.mem_of_getElem? (i := 1372) (by decide +kernel), List.mem_of_getElem? (i := 1574) (by decide +kernel), List.mem_of_getElem? (i := 1575) (by decide +kernel)⟩
theorem lw_p60 : lw_okq (⟨"CopperBoardModel", "here", "()I"⟩, 54) := ⟨⟨by decide +kernel, by decide +kernel⟩, List.mem_of_getElem? (i := 1372) (by decide +kernel), List.mem_of_getElem? (i := 1578) (by decide +kernel), List.mem_of_getElem? (i := 1579) (by decide +kernel)⟩
theorem lw_p61 : lw_okq (⟨"CopperBoardModel", "letterAt", "(I)I"⟩, 54) := ⟨⟨by decide +kernel, by decide +kernel⟩, List.mem_of_getElem? (i := 1372) (by decide +kernel), List.mem_of_getElem? (i := 1582) (by decide +kernel), List.mem_of_getElem? (i := 1583) (by decide +kernel)⟩
theorem lw_p62 : lw_okq (⟨"CopperBoardModel", "bad", "()V"⟩, 54) := ⟨⟨by decide +kernel, by decide +kernel⟩, List.mem_of_getElem? (i := 1372) (by decide +kernel), List.mem_of_getElem? (i := 1586) (by decide +kernel), List.mem_of_getElem? (i := 1587) (by decide +kernel)⟩
theorem lw_p63 : lw_okq (⟨"CopperBoardModel", "number", "(II)I"⟩, 54) := ⟨⟨by decide +kernel, by decide +kernel⟩, List.mem_of_getElem? (i := 1372) (by decide +kernel), List.mem_of_getElem? (i := 1590) (by decide +kernel), List.mem_of_getElem? (i := 1591) (by decide +kernel)⟩
def lw_privs_4 : List (MethodName × Nat) := [(⟨"CopperBoard$Checks", "isNewPart", "(II)Z"⟩, 9), (⟨"CopperBoard$Checks", "isBeside", "(III)Z"⟩, 9), (⟨"CopperBoard$Trail", "touches", "(II)Z"⟩, 6), (⟨"CopperBoard$Presser", "withPins", "()I"⟩, 6), (⟨"CopperBoard$Presser", "wholeFigure", "(Z)I"⟩, 6), (⟨"CopperBoard$Chooser", "fewestByRows", "(I)I"⟩, 4), (⟨"CopperBoard$Chooser", "layFlat", "(II)Z"⟩, 4), (⟨"CopperBoard", "splitSheet", "(IIIZ)I"⟩, 11), (⟨"java/lang/Throwable", "fillInStackTrace", "(I)Ljava/lang/Throwable;"⟩, 6), (⟨"CopperBoardModel", "readSort", "(I)I"⟩, 54), (⟨"CopperBoardModel", "setting", "(I)V"⟩, 54), (⟨"CopperBoardModel", "look", "()I"⟩, 54), (⟨"CopperBoardModel", "here", "()I"⟩, 54), (⟨"CopperBoardModel", "letterAt", "(I)I"⟩, 54), (⟨"CopperBoardModel", "bad", "()V"⟩, 54), (⟨"CopperBoardModel", "number", "(II)I"⟩, 54)]
theorem lw_r4 : ∀ q ∈ lw_privs_4, lw_okq q := List.forall_mem_cons.mpr ⟨lw_p48, List.forall_mem_cons.mpr ⟨lw_p49, List.forall_mem_cons.mpr ⟨lw_p50, List.forall_mem_cons.mpr ⟨lw_p51, List.forall_mem_cons.mpr ⟨lw_p52, List.forall_mem_cons.mpr ⟨lw_p53, List.forall_mem_cons.mpr ⟨lw_p54, List.forall_mem_cons.mpr ⟨lw_p55, List.forall_mem_cons.mpr ⟨lw_p56, List.forall_mem_cons.mpr ⟨lw_p57, List.forall_mem_cons.mpr ⟨lw_p58, List.forall_mem_cons.mpr ⟨lw_p59, List.forall_mem_cons.mpr ⟨lw_p60, List.forall_mem_cons.mpr ⟨lw_p61, List.forall_mem_cons.mpr ⟨lw_p62, List.forall_mem_cons.mpr ⟨lw_p63, fun _ h => absurd h List.not_mem_nil⟩⟩⟩⟩⟩⟩⟩⟩⟩⟩⟩⟩⟩⟩⟩⟩
theorem lw_p64 : lw_okq (⟨"CopperBoardModel", "readLayers", "(I)V"⟩, 54) := ⟨⟨by decide +kernel, by decide +kernel⟩, List.mem_of_getElem? (i := 1372) (by decide +kernel), List.mem_of_getElem? (i := 1600) (by decide +kernel), List.mem_of_getElem? (i := 1601) (by decide +kernel)⟩
theorem lw_p65 : lw_okq (⟨"CopperBoardModel", "isNet", "(I)Z"⟩, 54) := ⟨⟨by decide +kernel, by decide +kernel⟩, List.mem_of_getElem? (i := 1372) (by decide +kernel), List.mem_of_getElem? (i := 1620) (by decide +kernel), List.mem_of_getElem? (i := 1621) (by decide +kernel)⟩
theorem lw_p66 : lw_okq (⟨"CopperBoardModel", "isCell", "(III)Z"⟩, 54) := ⟨⟨by decide +kernel, by decide +kernel⟩, List.mem_of_getElem? (i := 1372) (by decide +kernel), List.mem_of_getElem? (i := 1624) (by decide +kernel), List.mem_of_getElem? (i := 1625) (by decide +kernel)⟩
theorem lw_p67 : lw_okq (⟨"CopperBoardModel", "pinOn", "(I)I"⟩, 54) := ⟨⟨by decide +kernel, by decide +kernel⟩, List.mem_of_getElem? (i := 1372) (by decide +kernel), List.mem_of_getElem? (i := 1631) (by decide +kernel), List.mem_of_getElem? (i := 1632) (by decide +kernel)⟩
theorem lw_p68 : lw_okq (⟨"CopperBoardModel", "moved", "(II)I"⟩, 54) := ⟨⟨by decide +kernel, by decide +kernel⟩, List.mem_of_getElem? (i := 1372) (by decide +kernel), List.mem_of_getElem? (i := 1643) (by decide +kernel), List.mem_of_getElem? (i := 1644) (by decide +kernel)⟩
theorem lw_p69 : lw_okq (⟨"CopperBoardModel", "addWire", "(III)V"⟩, 54) := ⟨⟨by decide +kernel, by decide +kernel⟩, List.mem_of_getElem? (i := 1372) (by decide +kernel), List.mem_of_getElem? (i := 1656) (by decide +kernel), List.mem_of_getElem? (i := 1657) (by decide +kernel)⟩
theorem lw_p70 : lw_okq (⟨"CopperBoardModel", "hasWire", "(III)Z"⟩, 54) := ⟨⟨by decide +kernel, by decide +kernel⟩, List.mem_of_getElem? (i := 1372) (by decide +kernel), List.mem_of_getElem? (i := 1660) (by decide +kernel), List.mem_of_getElem? (i := 1661) (by decide +kernel)⟩
theorem lw_p71 : lw_okq (⟨"CopperBoardModel", "has", "(II)Z"⟩, 54) := ⟨⟨by decide +kernel, by decide +kernel⟩, List.mem_of_getElem? (i := 1372) (by decide +kernel), List.mem_of_getElem? (i := 1672) (by decide +kernel), List.mem_of_getElem? (i := 1673) (by decide +kernel)⟩
theorem lw_p72 : lw_okq (⟨"CopperBoardModel", "isFree", "(IIZ)Z"⟩, 54) := ⟨⟨by decide +kernel, by decide +kernel⟩, List.mem_of_getElem? (i := 1372) (by decide +kernel), List.mem_of_getElem? (i := 1680) (by decide +kernel), List.mem_of_getElem? (i := 1681) (by decide +kernel)⟩
theorem lw_p73 : lw_okq (⟨"CopperBoardModel", "counts", "(II)Z"⟩, 54) := ⟨⟨by decide +kernel, by decide +kernel⟩, List.mem_of_getElem? (i := 1372) (by decide +kernel), List.mem_of_getElem? (i := 1684) (by decide +kernel), List.mem_of_getElem? (i := 1685) (by decide +kernel)⟩
theorem lw_p74 : lw_okq (⟨"CopperBoardModel", "apart", "(II)I"⟩, 54) := ⟨⟨by decide +kernel, by decide +kernel⟩, List.mem_of_getElem? (i := 1372) (by decide +kernel), List.mem_of_getElem? (i := 1688) (by decide +kernel), List.mem_of_getElem? (i := 1689) (by decide +kernel)⟩
theorem lw_p75 : lw_okq (⟨"CopperBoardModel", "isNear", "(III)Z"⟩, 54) := ⟨⟨by decide +kernel, by decide +kernel⟩, List.mem_of_getElem? (i := 1372) (by decide +kernel), List.mem_of_getElem? (i := 1692) (by decide +kernel), List.mem_of_getElem? (i := 1693) (by decide +kernel)⟩
theorem lw_p76 : lw_okq (⟨"CopperBoardModel", "plainly", "(Z)V"⟩, 54) := ⟨⟨by decide +kernel, by decide +kernel⟩, List.mem_of_getElem? (i := 1372) (by decide +kernel), List.mem_of_getElem? (i := 1700) (by decide +kernel), List.mem_of_getElem? (i := 1701) (by decide +kernel)⟩
theorem lw_p77 : lw_okq (⟨"CopperBoardModel", "layNet", "(I)I"⟩, 54) := ⟨⟨by decide +kernel, by decide +kernel⟩, List.mem_of_getElem? (i := 1372) (by decide +kernel), List.mem_of_getElem? (i := 1704) (by decide +kernel), List.mem_of_getElem? (i := 1705) (by decide +kernel)⟩
theorem lw_p78 : lw_okq (⟨"CopperBoardModel", "takeOff", "(I)V"⟩, 54) := ⟨⟨by decide +kernel, by decide +kernel⟩, List.mem_of_getElem? (i := 1372) (by decide +kernel), List.mem_of_getElem? (i := 1708) (by decide +kernel), List.mem_of_getElem? (i := 1709) (by decide +kernel)⟩
theorem lw_p79 : lw_okq (⟨"CopperBoardModel", "paint", "(I)V"⟩, 54) := ⟨⟨by decide +kernel, by decide +kernel⟩, List.mem_of_getElem? (i := 1372) (by decide +kernel), List.mem_of_getElem? (i := 1712) (by decide +kernel), List.mem_of_getElem? (i := 1713) (by decide +kernel)⟩
def lw_privs_5 : List (MethodName × Nat) := [(⟨"CopperBoardModel", "readLayers", "(I)V"⟩, 54), (⟨"CopperBoardModel", "isNet", "(I)Z"⟩, 54), (⟨"CopperBoardModel", "isCell", "(III)Z"⟩, 54), (⟨"CopperBoardModel", "pinOn", "(I)I"⟩, 54), (⟨"CopperBoardModel", "moved", "(II)I"⟩, 54), (⟨"CopperBoardModel", "addWire", "(III)V"⟩, 54), (⟨"CopperBoardModel", "hasWire", "(III)Z"⟩, 54), (⟨"CopperBoardModel", "has", "(II)Z"⟩, 54), (⟨"CopperBoardModel", "isFree", "(IIZ)Z"⟩, 54), (⟨"CopperBoardModel", "counts", "(II)Z"⟩, 54), (⟨"CopperBoardModel", "apart", "(II)I"⟩, 54), (⟨"CopperBoardModel", "isNear", "(III)Z"⟩, 54), (⟨"CopperBoardModel", "plainly", "(Z)V"⟩, 54), (⟨"CopperBoardModel", "layNet", "(I)I"⟩, 54), (⟨"CopperBoardModel", "takeOff", "(I)V"⟩, 54), (⟨"CopperBoardModel", "paint", "(I)V"⟩, 54)]
theorem lw_r5 : ∀ q ∈ lw_privs_5, lw_okq q := List.forall_mem_cons.mpr ⟨lw_p64, List.forall_mem_cons.mpr ⟨lw_p65, List.forall_mem_cons.mpr ⟨lw_p66, List.forall_mem_cons.mpr ⟨lw_p67, List.forall_mem_cons.mpr ⟨lw_p68, List.forall_mem_cons.mpr ⟨lw_p69, List.forall_mem_cons.mpr ⟨lw_p70, List.forall_mem_cons.mpr ⟨lw_p71, List.forall_mem_cons.mpr ⟨lw_p72, List.forall_mem_cons.mpr ⟨lw_p73, List.forall_mem_cons.mpr ⟨lw_p74, List.forall_mem_cons.mpr ⟨lw_p75, List.forall_mem_cons.mpr ⟨lw_p76, List.forall_mem_cons.mpr ⟨lw_p77, List.forall_mem_cons.mpr ⟨lw_p78, List.forall_mem_cons.mpr ⟨lw_p79, fun _ h => absurd h List.not_mem_nil⟩⟩⟩⟩⟩⟩⟩⟩⟩⟩⟩⟩⟩⟩⟩⟩
theorem lw_p80 : lw_okq (⟨"CopperBoardModel", "join", "(II)V"⟩, 54) := ⟨⟨by decide +kernel, by decide +kernel⟩, List.mem_of_getElem? (i := 1372) (by decide +kernel), List.mem_of_getElem? (i := 1716) (by decide +kernel), List.mem_of_getElem? (i := 1717) (by decide +kernel)⟩
theorem lw_p81 : lw_okq (⟨"CopperBoardModel", "joins", "(II)Z"⟩, 54) := ⟨⟨by decide +kernel, by decide +kernel⟩, List.mem_of_getElem? (i := 1372) (by decide +kernel), List.mem_of_getElem? (i := 1720) (by decide +kernel), List.mem_of_getElem? (i := 1721) (by decide +kernel)⟩
theorem lw_p82 : lw_okq (⟨"CopperBoardModel", "go", "(II)I"⟩, 54) := ⟨⟨by decide +kernel, by decide +kernel⟩, List.mem_of_getElem? (i := 1372) (by decide +kernel), List.mem_of_getElem? (i := 1724) (by decide +kernel), List.mem_of_getElem? (i := 1725) (by decide +kernel)⟩
theorem lw_p83 : lw_okq (⟨"CopperBoardModel", "weigh", "(I)V"⟩, 54) := ⟨⟨by decide +kernel, by decide +kernel⟩, List.mem_of_getElem? (i := 1372) (by decide +kernel), List.mem_of_getElem? (i := 1728) (by decide +kernel), List.mem_of_getElem? (i := 1729) (by decide +kernel)⟩
theorem lw_p84 : lw_okq (⟨"CopperBoardModel", "relax", "(II)Z"⟩, 54) := ⟨⟨by decide +kernel, by decide +kernel⟩, List.mem_of_getElem? (i := 1372) (by decide +kernel), List.mem_of_getElem? (i := 1733) (by decide +kernel), List.mem_of_getElem? (i := 1734) (by decide +kernel)⟩
theorem lw_p85 : lw_okq (⟨"CopperBoardModel", "bestFrom", "(III)I"⟩, 54) := ⟨⟨by decide +kernel, by decide +kernel⟩, List.mem_of_getElem? (i := 1372) (by decide +kernel), List.mem_of_getElem? (i := 1737) (by decide +kernel), List.mem_of_getElem? (i := 1738) (by decide +kernel)⟩
theorem lw_p86 : lw_okq (⟨"CopperBoardModel", "costOf", "(IIII)I"⟩, 54) := ⟨⟨by decide +kernel, by decide +kernel⟩, List.mem_of_getElem? (i := 1372) (by decide +kernel), List.mem_of_getElem? (i := 1741) (by decide +kernel), List.mem_of_getElem? (i := 1742) (by decide +kernel)⟩
theorem lw_p87 : lw_okq (⟨"CopperBoardModel", "leads", "(IIII)Z"⟩, 54) := ⟨⟨by decide +kernel, by decide +kernel⟩, List.mem_of_getElem? (i := 1372) (by decide +kernel), List.mem_of_getElem? (i := 1745) (by decide +kernel), List.mem_of_getElem? (i := 1746) (by decide +kernel)⟩
theorem lw_p88 : lw_okq (⟨"CopperBoardModel", "addTrace", "(III)V"⟩, 54) := ⟨⟨by decide +kernel, by decide +kernel⟩, List.mem_of_getElem? (i := 1372) (by decide +kernel), List.mem_of_getElem? (i := 1749) (by decide +kernel), List.mem_of_getElem? (i := 1750) (by decide +kernel)⟩
theorem lw_p89 : lw_okq (⟨"CopperBoardModel", "putBack", "(I)V"⟩, 54) := ⟨⟨by decide +kernel, by decide +kernel⟩, List.mem_of_getElem? (i := 1372) (by decide +kernel), List.mem_of_getElem? (i := 1753) (by decide +kernel), List.mem_of_getElem? (i := 1754) (by decide +kernel)⟩
theorem lw_p90 : lw_okq (⟨"CopperBoardModel", "tried", "(I)I"⟩, 54) := ⟨⟨by decide +kernel, by decide +kernel⟩, List.mem_of_getElem? (i := 1372) (by decide +kernel), List.mem_of_getElem? (i := 1761) (by decide +kernel), List.mem_of_getElem? (i := 1762) (by decide +kernel)⟩
theorem lw_p91 : lw_okq (⟨"CopperBoardModel", "ripAll", "()V"⟩, 54) := ⟨⟨by decide +kernel, by decide +kernel⟩, List.mem_of_getElem? (i := 1372) (by decide +kernel), List.mem_of_getElem? (i := 1777) (by decide +kernel), List.mem_of_getElem? (i := 1778) (by decide +kernel)⟩
theorem lw_p92 : lw_okq (⟨"CopperBoardModel", "takeAllOff", "()V"⟩, 54) := ⟨⟨by decide +kernel, by decide +kernel⟩, List.mem_of_getElem? (i := 1372) (by decide +kernel), List.mem_of_getElem? (i := 1785) (by decide +kernel), List.mem_of_getElem? (i := 1786) (by decide +kernel)⟩
theorem lw_p93 : lw_okq (⟨"CopperBoardModel", "turn", "(I)Z"⟩, 54) := ⟨⟨by decide +kernel, by decide +kernel⟩, List.mem_of_getElem? (i := 1372) (by decide +kernel), List.mem_of_getElem? (i := 1789) (by decide +kernel), List.mem_of_getElem? (i := 1790) (by decide +kernel)⟩
theorem lw_p94 : lw_okq (⟨"CopperBoardModel", "isInside", "(I)Z"⟩, 54) := ⟨⟨by decide +kernel, by decide +kernel⟩, List.mem_of_getElem? (i := 1372) (by decide +kernel), List.mem_of_getElem? (i := 1793) (by decide +kernel), List.mem_of_getElem? (i := 1794) (by decide +kernel)⟩
theorem lw_p95 : lw_okq (⟨"CopperBoardModel", "tracesNear", "(II)I"⟩, 54) := ⟨⟨by decide +kernel, by decide +kernel⟩, List.mem_of_getElem? (i := 1372) (by decide +kernel), List.mem_of_getElem? (i := 1797) (by decide +kernel), List.mem_of_getElem? (i := 1798) (by decide +kernel)⟩
def lw_privs_6 : List (MethodName × Nat) := [(⟨"CopperBoardModel", "join", "(II)V"⟩, 54), (⟨"CopperBoardModel", "joins", "(II)Z"⟩, 54), (⟨"CopperBoardModel", "go", "(II)I"⟩, 54), (⟨"CopperBoardModel", "weigh", "(I)V"⟩, 54), (⟨"CopperBoardModel", "relax", "(II)Z"⟩, 54), (⟨"CopperBoardModel", "bestFrom", "(III)I"⟩, 54), (⟨"CopperBoardModel", "costOf", "(IIII)I"⟩, 54), (⟨"CopperBoardModel", "leads", "(IIII)Z"⟩, 54), (⟨"CopperBoardModel", "addTrace", "(III)V"⟩, 54), (⟨"CopperBoardModel", "putBack", "(I)V"⟩, 54), (⟨"CopperBoardModel", "tried", "(I)I"⟩, 54), (⟨"CopperBoardModel", "ripAll", "()V"⟩, 54), (⟨"CopperBoardModel", "takeAllOff", "()V"⟩, 54), (⟨"CopperBoardModel", "turn", "(I)Z"⟩, 54), (⟨"CopperBoardModel", "isInside", "(I)Z"⟩, 54), (⟨"CopperBoardModel", "tracesNear", "(II)I"⟩, 54)]
theorem lw_r6 : ∀ q ∈ lw_privs_6, lw_okq q := List.forall_mem_cons.mpr ⟨lw_p80, List.forall_mem_cons.mpr ⟨lw_p81, List.forall_mem_cons.mpr ⟨lw_p82, List.forall_mem_cons.mpr ⟨lw_p83, List.forall_mem_cons.mpr ⟨lw_p84, List.forall_mem_cons.mpr ⟨lw_p85, List.forall_mem_cons.mpr ⟨lw_p86, List.forall_mem_cons.mpr ⟨lw_p87, List.forall_mem_cons.mpr ⟨lw_p88, List.forall_mem_cons.mpr ⟨lw_p89, List.forall_mem_cons.mpr ⟨lw_p90, List.forall_mem_cons.mpr ⟨lw_p91, List.forall_mem_cons.mpr ⟨lw_p92, List.forall_mem_cons.mpr ⟨lw_p93, List.forall_mem_cons.mpr ⟨lw_p94, List.forall_mem_cons.mpr ⟨lw_p95, fun _ h => absurd h List.not_mem_nil⟩⟩⟩⟩⟩⟩⟩⟩⟩⟩⟩⟩⟩⟩⟩⟩
theorem lw_p96 : lw_okq (⟨"CopperBoardModel", "isTraceNear", "(III)Z"⟩, 54) := ⟨⟨by decide +kernel, by decide +kernel⟩, List.mem_of_getElem? (i := 1372) (by decide +kernel), List.mem_of_getElem? (i := 1801) (by decide +kernel), List.mem_of_getElem? (i := 1802) (by decide +kernel)⟩
theorem lw_p97 : lw_okq (⟨"CopperBoardModel", "hasTrace", "(II)Z"⟩, 54) := ⟨⟨by decide +kernel, by decide +kernel⟩, List.mem_of_getElem? (i := 1372) (by decide +kernel), List.mem_of_getElem? (i := 1805) (by decide +kernel), List.mem_of_getElem? (i := 1806) (by decide +kernel)⟩
theorem lw_p98 : lw_okq (⟨"CopperBoardModel", "crowd", "()I"⟩, 54) := ⟨⟨by decide +kernel, by decide +kernel⟩, List.mem_of_getElem? (i := 1372) (by decide +kernel), List.mem_of_getElem? (i := 1809) (by decide +kernel), List.mem_of_getElem? (i := 1810) (by decide +kernel)⟩
theorem lw_p99 : lw_okq (⟨"CopperBoardModel", "putAllBack", "()V"⟩, 54) := ⟨⟨by decide +kernel, by decide +kernel⟩, List.mem_of_getElem? (i := 1372) (by decide +kernel), List.mem_of_getElem? (i := 1813) (by decide +kernel), List.mem_of_getElem? (i := 1814) (by decide +kernel)⟩
theorem lw_p100 : lw_okq (⟨"CopperBoardModel", "reach", "(I)V"⟩, 54) := ⟨⟨by decide +kernel, by decide +kernel⟩, List.mem_of_getElem? (i := 1372) (by decide +kernel), List.mem_of_getElem? (i := 1821) (by decide +kernel), List.mem_of_getElem? (i := 1822) (by decide +kernel)⟩
theorem lw_p101 : lw_okq (⟨"CopperBoardModel", "isBeside", "(I)Z"⟩, 54) := ⟨⟨by decide +kernel, by decide +kernel⟩, List.mem_of_getElem? (i := 1372) (by decide +kernel), List.mem_of_getElem? (i := 1825) (by decide +kernel), List.mem_of_getElem? (i := 1826) (by decide +kernel)⟩
theorem lw_p102 : lw_okq (⟨"CopperBoardModel", "cutOf", "(II)I"⟩, 54) := ⟨⟨by decide +kernel, by decide +kernel⟩, List.mem_of_getElem? (i := 1372) (by decide +kernel), List.mem_of_getElem? (i := 1829) (by decide +kernel), List.mem_of_getElem? (i := 1830) (by decide +kernel)⟩
theorem lw_p103 : lw_okq (⟨"CopperBoardModel", "isWall", "(I)Z"⟩, 54) := ⟨⟨by decide +kernel, by decide +kernel⟩, List.mem_of_getElem? (i := 1372) (by decide +kernel), List.mem_of_getElem? (i := 1833) (by decide +kernel), List.mem_of_getElem? (i := 1834) (by decide +kernel)⟩
theorem lw_p104 : lw_okq (⟨"CopperBoardModel", "findAll", "(II)Z"⟩, 54) := ⟨⟨by decide +kernel, by decide +kernel⟩, List.mem_of_getElem? (i := 1372) (by decide +kernel), List.mem_of_getElem? (i := 1849) (by decide +kernel), List.mem_of_getElem? (i := 1850) (by decide +kernel)⟩
theorem lw_p105 : lw_okq (⟨"CopperBoardModel", "goOn", "(IIII)Z"⟩, 54) := ⟨⟨by decide +kernel, by decide +kernel⟩, List.mem_of_getElem? (i := 1372) (by decide +kernel), List.mem_of_getElem? (i := 1854) (by decide +kernel), List.mem_of_getElem? (i := 1855) (by decide +kernel)⟩
theorem lw_p106 : lw_okq (⟨"CopperBoardModel", "isPlainFrom", "(III)Z"⟩, 54) := ⟨⟨by decide +kernel, by decide +kernel⟩, List.mem_of_getElem? (i := 1372) (by decide +kernel), List.mem_of_getElem? (i := 1858) (by decide +kernel), List.mem_of_getElem? (i := 1859) (by decide +kernel)⟩
theorem lw_p107 : lw_okq (⟨"CopperBoardModel", "lengthOf", "(I)I"⟩, 54) := ⟨⟨by decide +kernel, by decide +kernel⟩, List.mem_of_getElem? (i := 1372) (by decide +kernel), List.mem_of_getElem? (i := 1866) (by decide +kernel), List.mem_of_getElem? (i := 1867) (by decide +kernel)⟩
theorem lw_p108 : lw_okq (⟨"CopperBoardModel", "isStretched", "(I)Z"⟩, 54) := ⟨⟨by decide +kernel, by decide +kernel⟩, List.mem_of_getElem? (i := 1372) (by decide +kernel), List.mem_of_getElem? (i := 1874) (by decide +kernel), List.mem_of_getElem? (i := 1875) (by decide +kernel)⟩
theorem lw_p109 : lw_okq (⟨"CopperBoardModel", "stretched", "(II)I"⟩, 54) := ⟨⟨by decide +kernel, by decide +kernel⟩, List.mem_of_getElem? (i := 1372) (by decide +kernel), List.mem_of_getElem? (i := 1878) (by decide +kernel), List.mem_of_getElem? (i := 1879) (by decide +kernel)⟩
theorem lw_p110 : lw_okq (⟨"CopperBoardModel", "wayFrom", "(II)I"⟩, 54) := ⟨⟨by decide +kernel, by decide +kernel⟩, List.mem_of_getElem? (i := 1372) (by decide +kernel), List.mem_of_getElem? (i := 1882) (by decide +kernel), List.mem_of_getElem? (i := 1883) (by decide +kernel)⟩
theorem lw_p111 : lw_okq (⟨"CopperBoardModel", "bulge", "(IIII)Z"⟩, 54) := ⟨⟨by decide +kernel, by decide +kernel⟩, List.mem_of_getElem? (i := 1372) (by decide +kernel), List.mem_of_getElem? (i := 1886) (by decide +kernel), List.mem_of_getElem? (i := 1887) (by decide +kernel)⟩
def lw_privs_7 : List (MethodName × Nat) := [(⟨"CopperBoardModel", "isTraceNear", "(III)Z"⟩, 54), (⟨"CopperBoardModel", "hasTrace", "(II)Z"⟩, 54), (⟨"CopperBoardModel", "crowd", "()I"⟩, 54), (⟨"CopperBoardModel", "putAllBack", "()V"⟩, 54), (⟨"CopperBoardModel", "reach", "(I)V"⟩, 54), (⟨"CopperBoardModel", "isBeside", "(I)Z"⟩, 54), (⟨"CopperBoardModel", "cutOf", "(II)I"⟩, 54), (⟨"CopperBoardModel", "isWall", "(I)Z"⟩, 54), (⟨"CopperBoardModel", "findAll", "(II)Z"⟩, 54), (⟨"CopperBoardModel", "goOn", "(IIII)Z"⟩, 54), (⟨"CopperBoardModel", "isPlainFrom", "(III)Z"⟩, 54), (⟨"CopperBoardModel", "lengthOf", "(I)I"⟩, 54), (⟨"CopperBoardModel", "isStretched", "(I)Z"⟩, 54), (⟨"CopperBoardModel", "stretched", "(II)I"⟩, 54), (⟨"CopperBoardModel", "wayFrom", "(II)I"⟩, 54), (⟨"CopperBoardModel", "bulge", "(IIII)Z"⟩, 54)]
theorem lw_r7 : ∀ q ∈ lw_privs_7, lw_okq q := List.forall_mem_cons.mpr ⟨lw_p96, List.forall_mem_cons.mpr ⟨lw_p97, List.forall_mem_cons.mpr ⟨lw_p98, List.forall_mem_cons.mpr ⟨lw_p99, List.forall_mem_cons.mpr ⟨lw_p100, List.forall_mem_cons.mpr ⟨lw_p101, List.forall_mem_cons.mpr ⟨lw_p102, List.forall_mem_cons.mpr ⟨lw_p103, List.forall_mem_cons.mpr ⟨lw_p104, List.forall_mem_cons.mpr ⟨lw_p105, List.forall_mem_cons.mpr ⟨lw_p106, List.forall_mem_cons.mpr ⟨lw_p107, List.forall_mem_cons.mpr ⟨lw_p108, List.forall_mem_cons.mpr ⟨lw_p109, List.forall_mem_cons.mpr ⟨lw_p110, List.forall_mem_cons.mpr ⟨lw_p111, fun _ h => absurd h List.not_mem_nil⟩⟩⟩⟩⟩⟩⟩⟩⟩⟩⟩⟩⟩⟩⟩⟩
theorem lw_p112 : lw_okq (⟨"CopperBoardModel", "isRoom", "(II)Z"⟩, 54) := ⟨⟨by decide +kernel, by decide +kernel⟩, List.mem_of_getElem? (i := 1372) (by decide +kernel), List.mem_of_getElem? (i := 1890) (by decide +kernel), List.mem_of_getElem? (i := 1891) (by decide +kernel)⟩
theorem lw_p113 : lw_okq (⟨"CopperBoardModel", "spread", "(II)V"⟩, 54) := ⟨⟨by decide +kernel, by decide +kernel⟩, List.mem_of_getElem? (i := 1372) (by decide +kernel), List.mem_of_getElem? (i := 1906) (by decide +kernel), List.mem_of_getElem? (i := 1907) (by decide +kernel)⟩
theorem lw_p114 : lw_okq (⟨"CopperBoardModel", "parts", "(IIIZ)I"⟩, 54) := ⟨⟨by decide +kernel, by decide +kernel⟩, List.mem_of_getElem? (i := 1372) (by decide +kernel), List.mem_of_getElem? (i := 1910) (by decide +kernel), List.mem_of_getElem? (i := 1911) (by decide +kernel)⟩
theorem lw_p115 : lw_okq (⟨"CopperBoardModel", "mingle", "(II)Z"⟩, 54) := ⟨⟨by decide +kernel, by decide +kernel⟩, List.mem_of_getElem? (i := 1372) (by decide +kernel), List.mem_of_getElem? (i := 1914) (by decide +kernel), List.mem_of_getElem? (i := 1915) (by decide +kernel)⟩
theorem lw_p116 : lw_okq (⟨"CopperBoardModel", "findWander", "(II)V"⟩, 54) := ⟨⟨by decide +kernel, by decide +kernel⟩, List.mem_of_getElem? (i := 1372) (by decide +kernel), List.mem_of_getElem? (i := 1930) (by decide +kernel), List.mem_of_getElem? (i := 1931) (by decide +kernel)⟩
theorem lw_p117 : lw_okq (⟨"CopperBoardModel", "strike", "(IIIII)V"⟩, 54) := ⟨⟨by decide +kernel, by decide +kernel⟩, List.mem_of_getElem? (i := 1372) (by decide +kernel), List.mem_of_getElem? (i := 1934) (by decide +kernel), List.mem_of_getElem? (i := 1935) (by decide +kernel)⟩
theorem lw_p118 : lw_okq (⟨"CopperBoardModel", "isFirstThere", "(II)Z"⟩, 54) := ⟨⟨by decide +kernel, by decide +kernel⟩, List.mem_of_getElem? (i := 1372) (by decide +kernel), List.mem_of_getElem? (i := 1938) (by decide +kernel), List.mem_of_getElem? (i := 1939) (by decide +kernel)⟩
theorem lw_p119 : lw_okq (⟨"CopperBoardModel", "movePin", "(III)V"⟩, 54) := ⟨⟨by decide +kernel, by decide +kernel⟩, List.mem_of_getElem? (i := 1372) (by decide +kernel), List.mem_of_getElem? (i := 1950) (by decide +kernel), List.mem_of_getElem? (i := 1951) (by decide +kernel)⟩
theorem lw_p120 : lw_okq (⟨"CopperBoardModel", "layWith", "(II)Z"⟩, 54) := ⟨⟨by decide +kernel, by decide +kernel⟩, List.mem_of_getElem? (i := 1372) (by decide +kernel), List.mem_of_getElem? (i := 1954) (by decide +kernel), List.mem_of_getElem? (i := 1955) (by decide +kernel)⟩
theorem lw_p121 : lw_okq (⟨"CopperBoardModel", "ripSome", "(I)V"⟩, 54) := ⟨⟨by decide +kernel, by decide +kernel⟩, List.mem_of_getElem? (i := 1372) (by decide +kernel), List.mem_of_getElem? (i := 1958) (by decide +kernel), List.mem_of_getElem? (i := 1959) (by decide +kernel)⟩
theorem lw_p122 : lw_okq (⟨"CopperBoardModel", "uniteAll", "()V"⟩, 54) := ⟨⟨by decide +kernel, by decide +kernel⟩, List.mem_of_getElem? (i := 1372) (by decide +kernel), List.mem_of_getElem? (i := 1966) (by decide +kernel), List.mem_of_getElem? (i := 1967) (by decide +kernel)⟩
theorem lw_p123 : lw_okq (⟨"CopperBoardModel", "unite", "(II)V"⟩, 54) := ⟨⟨by decide +kernel, by decide +kernel⟩, List.mem_of_getElem? (i := 1372) (by decide +kernel), List.mem_of_getElem? (i := 1970) (by decide +kernel), List.mem_of_getElem? (i := 1971) (by decide +kernel)⟩
theorem lw_p124 : lw_okq (⟨"CopperBoardModel", "find", "(I)I"⟩, 54) := ⟨⟨by decide +kernel, by decide +kernel⟩, List.mem_of_getElem? (i := 1372) (by decide +kernel), List.mem_of_getElem? (i := 1974) (by decide +kernel), List.mem_of_getElem? (i := 1975) (by decide +kernel)⟩
theorem lw_p125 : lw_okq (⟨"CopperBoardModel", "areShort", "(II)Z"⟩, 54) := ⟨⟨by decide +kernel, by decide +kernel⟩, List.mem_of_getElem? (i := 1372) (by decide +kernel), List.mem_of_getElem? (i := 1978) (by decide +kernel), List.mem_of_getElem? (i := 1979) (by decide +kernel)⟩
theorem lw_p126 : lw_okq (⟨"CopperBoardModel", "isAlone", "(II)Z"⟩, 54) := ⟨⟨by decide +kernel, by decide +kernel⟩, List.mem_of_getElem? (i := 1372) (by decide +kernel), List.mem_of_getElem? (i := 1986) (by decide +kernel), List.mem_of_getElem? (i := 1987) (by decide +kernel)⟩
theorem lw_p127 : lw_okq (⟨"CopperBoardModel", "delayOf", "(I)I"⟩, 54) := ⟨⟨by decide +kernel, by decide +kernel⟩, List.mem_of_getElem? (i := 1372) (by decide +kernel), List.mem_of_getElem? (i := 1998) (by decide +kernel), List.mem_of_getElem? (i := 1999) (by decide +kernel)⟩
def lw_privs_8 : List (MethodName × Nat) := [(⟨"CopperBoardModel", "isRoom", "(II)Z"⟩, 54), (⟨"CopperBoardModel", "spread", "(II)V"⟩, 54), (⟨"CopperBoardModel", "parts", "(IIIZ)I"⟩, 54), (⟨"CopperBoardModel", "mingle", "(II)Z"⟩, 54), (⟨"CopperBoardModel", "findWander", "(II)V"⟩, 54), (⟨"CopperBoardModel", "strike", "(IIIII)V"⟩, 54), (⟨"CopperBoardModel", "isFirstThere", "(II)Z"⟩, 54), (⟨"CopperBoardModel", "movePin", "(III)V"⟩, 54), (⟨"CopperBoardModel", "layWith", "(II)Z"⟩, 54), (⟨"CopperBoardModel", "ripSome", "(I)V"⟩, 54), (⟨"CopperBoardModel", "uniteAll", "()V"⟩, 54), (⟨"CopperBoardModel", "unite", "(II)V"⟩, 54), (⟨"CopperBoardModel", "find", "(I)I"⟩, 54), (⟨"CopperBoardModel", "areShort", "(II)Z"⟩, 54), (⟨"CopperBoardModel", "isAlone", "(II)Z"⟩, 54), (⟨"CopperBoardModel", "delayOf", "(I)I"⟩, 54)]
theorem lw_r8 : ∀ q ∈ lw_privs_8, lw_okq q := List.forall_mem_cons.mpr ⟨lw_p112, List.forall_mem_cons.mpr ⟨lw_p113, List.forall_mem_cons.mpr ⟨lw_p114, List.forall_mem_cons.mpr ⟨lw_p115, List.forall_mem_cons.mpr ⟨lw_p116, List.forall_mem_cons.mpr ⟨lw_p117, List.forall_mem_cons.mpr ⟨lw_p118, List.forall_mem_cons.mpr ⟨lw_p119, List.forall_mem_cons.mpr ⟨lw_p120, List.forall_mem_cons.mpr ⟨lw_p121, List.forall_mem_cons.mpr ⟨lw_p122, List.forall_mem_cons.mpr ⟨lw_p123, List.forall_mem_cons.mpr ⟨lw_p124, List.forall_mem_cons.mpr ⟨lw_p125, List.forall_mem_cons.mpr ⟨lw_p126, List.forall_mem_cons.mpr ⟨lw_p127, fun _ h => absurd h List.not_mem_nil⟩⟩⟩⟩⟩⟩⟩⟩⟩⟩⟩⟩⟩⟩⟩⟩
theorem lw_p128 : lw_okq (⟨"CopperBoardModel", "delayed", "(II)I"⟩, 54) := ⟨⟨by decide +kernel, by decide +kernel⟩, List.mem_of_getElem? (i := 1372) (by decide +kernel), List.mem_of_getElem? (i := 2002) (by decide +kernel), List.mem_of_getElem? (i := 2003) (by decide +kernel)⟩
theorem lw_p129 : lw_okq (⟨"CopperBoardModel", "byAll", "(II)I"⟩, 54) := ⟨⟨by decide +kernel, by decide +kernel⟩, List.mem_of_getElem? (i := 1372) (by decide +kernel), List.mem_of_getElem? (i := 2010) (by decide +kernel), List.mem_of_getElem? (i := 2011) (by decide +kernel)⟩
theorem lw_p130 : lw_okq (⟨"CopperBoardModel", "isBy", "(II)Z"⟩, 54) := ⟨⟨by decide +kernel, by decide +kernel⟩, List.mem_of_getElem? (i := 1372) (by decide +kernel), List.mem_of_getElem? (i := 2014) (by decide +kernel), List.mem_of_getElem? (i := 2015) (by decide +kernel)⟩
theorem lw_p131 : lw_okq (⟨"CopperBoardModel", "longest", "(II)I"⟩, 54) := ⟨⟨by decide +kernel, by decide +kernel⟩, List.mem_of_getElem? (i := 1372) (by decide +kernel), List.mem_of_getElem? (i := 2018) (by decide +kernel), List.mem_of_getElem? (i := 2019) (by decide +kernel)⟩
theorem lw_p132 : lw_okq (⟨"CopperBoardModel", "away", "(II)I"⟩, 54) := ⟨⟨by decide +kernel, by decide +kernel⟩, List.mem_of_getElem? (i := 1372) (by decide +kernel), List.mem_of_getElem? (i := 2022) (by decide +kernel), List.mem_of_getElem? (i := 2023) (by decide +kernel)⟩
theorem lw_p133 : lw_okq (⟨"CopperBoardModel", "keepNow", "()V"⟩, 54) := ⟨⟨by decide +kernel, by decide +kernel⟩, List.mem_of_getElem? (i := 1372) (by decide +kernel), List.mem_of_getElem? (i := 2030) (by decide +kernel), List.mem_of_getElem? (i := 2031) (by decide +kernel)⟩
theorem lw_p134 : lw_okq (⟨"CopperBoardModel", "besideOrder", "(I)I"⟩, 54) := ⟨⟨by decide +kernel, by decide +kernel⟩, List.mem_of_getElem? (i := 1372) (by decide +kernel), List.mem_of_getElem? (i := 2034) (by decide +kernel), List.mem_of_getElem? (i := 2035) (by decide +kernel)⟩
theorem lw_p135 : lw_okq (⟨"CopperBoardModel", "lengths", "(Z)I"⟩, 54) := ⟨⟨by decide +kernel, by decide +kernel⟩, List.mem_of_getElem? (i := 1372) (by decide +kernel), List.mem_of_getElem? (i := 2039) (by decide +kernel), List.mem_of_getElem? (i := 2040) (by decide +kernel)⟩
theorem lw_p136 : lw_okq (⟨"CopperBoardModel", "besidePress", "(III)I"⟩, 54) := ⟨⟨by decide +kernel, by decide +kernel⟩, List.mem_of_getElem? (i := 1372) (by decide +kernel), List.mem_of_getElem? (i := 2043) (by decide +kernel), List.mem_of_getElem? (i := 2044) (by decide +kernel)⟩
theorem lw_p137 : lw_okq (⟨"CopperBoardModel", "bringNow", "()V"⟩, 54) := ⟨⟨by decide +kernel, by decide +kernel⟩, List.mem_of_getElem? (i := 1372) (by decide +kernel), List.mem_of_getElem? (i := 2048) (by decide +kernel), List.mem_of_getElem? (i := 2049) (by decide +kernel)⟩
theorem lw_p138 : lw_okq (⟨"CopperBoardModel", "wasThere", "(II)Z"⟩, 54) := ⟨⟨by decide +kernel, by decide +kernel⟩, List.mem_of_getElem? (i := 1372) (by decide +kernel), List.mem_of_getElem? (i := 2060) (by decide +kernel), List.mem_of_getElem? (i := 2061) (by decide +kernel)⟩
def lw_privs_9 : List (MethodName × Nat) := [(⟨"CopperBoardModel", "delayed", "(II)I"⟩, 54), (⟨"CopperBoardModel", "byAll", "(II)I"⟩, 54), (⟨"CopperBoardModel", "isBy", "(II)Z"⟩, 54), (⟨"CopperBoardModel", "longest", "(II)I"⟩, 54), (⟨"CopperBoardModel", "away", "(II)I"⟩, 54), (⟨"CopperBoardModel", "keepNow", "()V"⟩, 54), (⟨"CopperBoardModel", "besideOrder", "(I)I"⟩, 54), (⟨"CopperBoardModel", "lengths", "(Z)I"⟩, 54), (⟨"CopperBoardModel", "besidePress", "(III)I"⟩, 54), (⟨"CopperBoardModel", "bringNow", "()V"⟩, 54), (⟨"CopperBoardModel", "wasThere", "(II)Z"⟩, 54)]
theorem lw_r9 : ∀ q ∈ lw_privs_9, lw_okq q := List.forall_mem_cons.mpr ⟨lw_p128, List.forall_mem_cons.mpr ⟨lw_p129, List.forall_mem_cons.mpr ⟨lw_p130, List.forall_mem_cons.mpr ⟨lw_p131, List.forall_mem_cons.mpr ⟨lw_p132, List.forall_mem_cons.mpr ⟨lw_p133, List.forall_mem_cons.mpr ⟨lw_p134, List.forall_mem_cons.mpr ⟨lw_p135, List.forall_mem_cons.mpr ⟨lw_p136, List.forall_mem_cons.mpr ⟨lw_p137, List.forall_mem_cons.mpr ⟨lw_p138, fun _ h => absurd h List.not_mem_nil⟩⟩⟩⟩⟩⟩⟩⟩⟩⟩⟩
def lw_privs : List (MethodName × Nat) := lw_privs_1 ++ (lw_privs_2 ++ (lw_privs_3 ++ (lw_privs_4 ++ (lw_privs_5 ++ (lw_privs_6 ++ (lw_privs_7 ++ (lw_privs_8 ++ (lw_privs_9))))))))
def lw_tbl : List Cond := k2_sels lw_privs ++ tables_1
theorem lw_privs_ok : ∀ q ∈ lw_privs, lw_okq q := by
  show ∀ q ∈ lw_privs_1 ++ (lw_privs_2 ++ (lw_privs_3 ++ (lw_privs_4 ++ (lw_privs_5 ++ (lw_privs_6 ++ (lw_privs_7 ++ (lw_privs_8 ++ (lw_privs_9)))))))), lw_okq q
  exact List.forall_mem_append.mpr ⟨lw_r1, List.forall_mem_append.mpr ⟨lw_r2, List.forall_mem_append.mpr ⟨lw_r3, List.forall_mem_append.mpr ⟨lw_r4, List.forall_mem_append.mpr ⟨lw_r5, List.forall_mem_append.mpr ⟨lw_r6, List.forall_mem_append.mpr ⟨lw_r7, List.forall_mem_append.mpr ⟨lw_r8, lw_r9⟩⟩⟩⟩⟩⟩⟩⟩
-- ===== end of PART A; then your names; then what follows =====
end
section
def RX0 : String := "CopperBoard$Checks"
def TX0 : u_T := fun k => match k with
  | 0 => ("CopperBoard$Checks", "grid", "LCopperBoard$Grid;", true)
  | 1 => ("CopperBoard$Checks", "nets", "LCopperBoard$Nets;", true)
  | 2 => ("CopperBoard$Checks", "slowness", "[I", true)
  | 3 => ("CopperBoard$Checks", "shorts", "I", false)
  | 4 => ("CopperBoard$Checks", "opens", "I", false)
  | 5 => ("CopperBoard$Checks", "label", "[I", true)
  | 6 => ("CopperBoard$Checks", "queue", "[I", true)
  | 7 => ("CopperBoard$Checks", "netsIn", "[I", true)
  | _ => ("CopperBoard$Checks", "labels", "I", false)
def tyX0 : Nat → FieldType := fun k => match k with
  | 0 => .object "CopperBoard$Grid"
  | 1 => .object "CopperBoard$Nets"
  | 2 => .array .int
  | 3 => .int
  | 4 => .int
  | 5 => .array .int
  | 6 => .array .int
  | 7 => .array .int
  | _ => .int
theorem nmX0 : ∀ a, a < 9 → ∀ b, b < 9 → a ≠ b → (TX0 a).2.1 ≠ (TX0 b).2.1 := by decide +kernel
theorem tyX0_ok : ∀ k, k < 9 → parseFieldDescriptor (TX0 k).2.2.1 = some (tyX0 k) := by decide +kernel
abbrev cX0_init : ByteArray := prog_2_method_1_code
def yX0_init : MethodName := ⟨RX0, "<init>", "(LCopperBoard$Grid;LCopperBoard$Nets;)V"⟩
abbrev cX0_shiftVias : ByteArray := prog_2_method_2_code
def yX0_shiftVias : MethodName := ⟨RX0, "shiftVias", "(II)V"⟩
abbrev cX0_judgeVia : ByteArray := prog_2_method_3_code
def yX0_judgeVia : MethodName := ⟨RX0, "judgeVia", "(II)V"⟩
abbrev cX0_worstShift : ByteArray := prog_2_method_4_code
def yX0_worstShift : MethodName := ⟨RX0, "worstShift", "(II)I"⟩
abbrev cX0_joinAll : ByteArray := prog_2_method_5_code
def yX0_joinAll : MethodName := ⟨RX0, "joinAll", "()V"⟩
abbrev cX0_joinFrom : ByteArray := prog_2_method_6_code
def yX0_joinFrom : MethodName := ⟨RX0, "joinFrom", "(I)I"⟩
abbrev cX0_allMovesAt : ByteArray := prog_2_method_7_code
def yX0_allMovesAt : MethodName := ⟨RX0, "allMovesAt", "(I)I"⟩
abbrev cX0_joinedPairs : ByteArray := prog_2_method_8_code
def yX0_joinedPairs : MethodName := ⟨RX0, "joinedPairs", "()I"⟩
abbrev cX0_areJoined : ByteArray := prog_2_method_9_code
def yX0_areJoined : MethodName := ⟨RX0, "areJoined", "(I)Z"⟩
abbrev cX0_openParts : ByteArray := prog_2_method_10_code
def yX0_openParts : MethodName := ⟨RX0, "openParts", "()I"⟩
abbrev cX0_isNewPart : ByteArray := prog_2_method_11_code
def yX0_isNewPart : MethodName := ⟨RX0, "isNewPart", "(II)Z"⟩
abbrev cX0_reachable : ByteArray := prog_2_method_12_code
def yX0_reachable : MethodName := ⟨RX0, "reachable", "(I)I"⟩
abbrev cX0_copperBeside : ByteArray := prog_2_method_13_code
def yX0_copperBeside : MethodName := ⟨RX0, "copperBeside", "(I)I"⟩
abbrev cX0_delayOf : ByteArray := prog_2_method_14_code
def yX0_delayOf : MethodName := ⟨RX0, "delayOf", "(I)I"⟩
abbrev cX0_isBeside : ByteArray := prog_2_method_15_code
def yX0_isBeside : MethodName := ⟨RX0, "isBeside", "(III)Z"⟩
abbrev cX0_cellsBeside : ByteArray := prog_2_method_16_code
def yX0_cellsBeside : MethodName := ⟨RX0, "cellsBeside", "(II)I"⟩
abbrev cX0_turnsAway : ByteArray := prog_2_method_17_code
def yX0_turnsAway : MethodName := ⟨RX0, "turnsAway", "(II)I"⟩
def RX1 : String := "CopperBoard$Chooser"
def TX1 : u_T := fun k => match k with
  | 0 => ("CopperBoard$Chooser", "grid", "LCopperBoard$Grid;", true)
  | 1 => ("CopperBoard$Chooser", "nets", "LCopperBoard$Nets;", true)
  | 2 => ("CopperBoard$Chooser", "room", "LCopperBoard$Room;", true)
  | _ => ("CopperBoard$Chooser", "router", "LCopperBoard$Router;", true)
def tyX1 : Nat → FieldType := fun k => match k with
  | 0 => .object "CopperBoard$Grid"
  | 1 => .object "CopperBoard$Nets"
  | 2 => .object "CopperBoard$Room"
  | _ => .object "CopperBoard$Router"
theorem nmX1 : ∀ a, a < 4 → ∀ b, b < 4 → a ≠ b → (TX1 a).2.1 ≠ (TX1 b).2.1 := by decide +kernel
theorem tyX1_ok : ∀ k, k < 4 → parseFieldDescriptor (TX1 k).2.2.1 = some (tyX1 k) := by decide +kernel
abbrev cX1_init : ByteArray := prog_3_method_1_code
def yX1_init : MethodName := ⟨RX1, "<init>", "(LCopperBoard$Grid;LCopperBoard$Nets;LCopperBoard$Room;LCopperBoard$Router;)V"⟩
abbrev cX1_cutOf : ByteArray := prog_3_method_2_code
def yX1_cutOf : MethodName := ⟨RX1, "cutOf", "(II)I"⟩
abbrev cX1_isWall : ByteArray := prog_3_method_3_code
def yX1_isWall : MethodName := ⟨RX1, "isWall", "(I)Z"⟩
abbrev cX1_setOf : ByteArray := prog_3_method_4_code
def yX1_setOf : MethodName := ⟨RX1, "setOf", "(I)I"⟩
abbrev cX1_othersWithTraces : ByteArray := prog_3_method_5_code
def yX1_othersWithTraces : MethodName := ⟨RX1, "othersWithTraces", "(I)I"⟩
abbrev cX1_fewestBars : ByteArray := prog_3_method_6_code
def yX1_fewestBars : MethodName := ⟨RX1, "fewestBars", "(II)I"⟩
abbrev cX1_whyVias : ByteArray := prog_3_method_7_code
def yX1_whyVias : MethodName := ⟨RX1, "whyVias", "(I)I"⟩
abbrev cX1_fewestByRows : ByteArray := prog_3_method_8_code
def yX1_fewestByRows : MethodName := ⟨RX1, "fewestByRows", "(I)I"⟩
abbrev cX1_layFlat : ByteArray := prog_3_method_9_code
def yX1_layFlat : MethodName := ⟨RX1, "layFlat", "(II)Z"⟩
abbrev cX1_moveLate : ByteArray := prog_3_method_10_code
def yX1_moveLate : MethodName := ⟨RX1, "moveLate", "(III)I"⟩
abbrev cX1_layWith : ByteArray := prog_3_method_11_code
def yX1_layWith : MethodName := ⟨RX1, "layWith", "(II)Z"⟩
def RX2 : String := "CopperBoard$Grid"
def TX2 : u_T := fun k => match k with
  | 0 => ("CopperBoard$Grid", "wide", "I", true)
  | 1 => ("CopperBoard$Grid", "deep", "I", true)
  | 2 => ("CopperBoard$Grid", "layers", "I", true)
  | 3 => ("CopperBoard$Grid", "floor", "I", true)
  | 4 => ("CopperBoard$Grid", "cells", "I", true)
  | 5 => ("CopperBoard$Grid", "next", "[I", true)
  | 6 => ("CopperBoard$Grid", "xOf", "[I", true)
  | 7 => ("CopperBoard$Grid", "yOf", "[I", true)
  | _ => ("CopperBoard$Grid", "layerOf", "[I", true)
def tyX2 : Nat → FieldType := fun k => match k with
  | 0 => .int
  | 1 => .int
  | 2 => .int
  | 3 => .int
  | 4 => .int
  | 5 => .array .int
  | 6 => .array .int
  | 7 => .array .int
  | _ => .array .int
theorem nmX2 : ∀ a, a < 9 → ∀ b, b < 9 → a ≠ b → (TX2 a).2.1 ≠ (TX2 b).2.1 := by decide +kernel
theorem tyX2_ok : ∀ k, k < 9 → parseFieldDescriptor (TX2 k).2.2.1 = some (tyX2 k) := by decide +kernel
abbrev cX2_init : ByteArray := prog_4_method_1_code
def yX2_init : MethodName := ⟨RX2, "<init>", "(III)V"⟩
abbrev cX2_cellAt : ByteArray := prog_4_method_2_code
def yX2_cellAt : MethodName := ⟨RX2, "cellAt", "(III)I"⟩
abbrev cX2_allLayers : ByteArray := prog_4_method_3_code
def yX2_allLayers : MethodName := ⟨RX2, "allLayers", "()I"⟩
def RX3 : String := "CopperBoard$Nets"
def TX3 : u_T := fun k => match k with
  | 0 => ("CopperBoard$Nets", "grid", "LCopperBoard$Grid;", true)
  | 1 => ("CopperBoard$Nets", "settings", "[I", true)
  | 2 => ("CopperBoard$Nets", "sortOf", "[I", true)
  | 3 => ("CopperBoard$Nets", "ranks", "[I", true)
  | 4 => ("CopperBoard$Nets", "pinCounts", "[I", true)
  | 5 => ("CopperBoard$Nets", "pinCells", "[I", true)
  | 6 => ("CopperBoard$Nets", "closed", "[I", true)
  | 7 => ("CopperBoard$Nets", "solid", "[I", true)
  | 8 => ("CopperBoard$Nets", "traced", "[I", true)
  | 9 => ("CopperBoard$Nets", "wires", "[I", true)
  | 10 => ("CopperBoard$Nets", "traces", "[I", true)
  | 11 => ("CopperBoard$Nets", "savedTraced", "[I", true)
  | 12 => ("CopperBoard$Nets", "savedTraces", "[I", true)
  | 13 => ("CopperBoard$Nets", "sorts", "I", false)
  | _ => ("CopperBoard$Nets", "amount", "I", false)
def tyX3 : Nat → FieldType := fun k => match k with
  | 0 => .object "CopperBoard$Grid"
  | 1 => .array .int
  | 2 => .array .int
  | 3 => .array .int
  | 4 => .array .int
  | 5 => .array .int
  | 6 => .array .int
  | 7 => .array .int
  | 8 => .array .int
  | 9 => .array .int
  | 10 => .array .int
  | 11 => .array .int
  | 12 => .array .int
  | 13 => .int
  | _ => .int
theorem nmX3 : ∀ a, a < 15 → ∀ b, b < 15 → a ≠ b → (TX3 a).2.1 ≠ (TX3 b).2.1 := by decide +kernel
theorem tyX3_ok : ∀ k, k < 15 → parseFieldDescriptor (TX3 k).2.2.1 = some (tyX3 k) := by decide +kernel
abbrev cX3_init : ByteArray := prog_5_method_1_code
def yX3_init : MethodName := ⟨RX3, "<init>", "(LCopperBoard$Grid;)V"⟩
abbrev cX3_addSort : ByteArray := prog_5_method_2_code
def yX3_addSort : MethodName := ⟨RX3, "addSort", "([I)I"⟩
abbrev cX3_addNet : ByteArray := prog_5_method_3_code
def yX3_addNet : MethodName := ⟨RX3, "addNet", "(I)I"⟩
abbrev cX3_setting : ByteArray := prog_5_method_4_code
def yX3_setting : MethodName := ⟨RX3, "setting", "(II)I"⟩
abbrev cX3_hasPin : ByteArray := prog_5_method_5_code
def yX3_hasPin : MethodName := ⟨RX3, "hasPin", "(I)Z"⟩
abbrev cX3_pinCell : ByteArray := prog_5_method_6_code
def yX3_pinCell : MethodName := ⟨RX3, "pinCell", "(II)I"⟩
abbrev cX3_addPin : ByteArray := prog_5_method_7_code
def yX3_addPin : MethodName := ⟨RX3, "addPin", "(II)I"⟩
abbrev cX3_movePin : ByteArray := prog_5_method_8_code
def yX3_movePin : MethodName := ⟨RX3, "movePin", "(III)V"⟩
abbrev cX3_close : ByteArray := prog_5_method_9_code
def yX3_close : MethodName := ⟨RX3, "close", "(IIIII)V"⟩
abbrev cX3_addWire : ByteArray := prog_5_method_10_code
def yX3_addWire : MethodName := ⟨RX3, "addWire", "(IIII)V"⟩
abbrev cX3_addTrace : ByteArray := prog_5_method_11_code
def yX3_addTrace : MethodName := ⟨RX3, "addTrace", "(III)I"⟩
abbrev cX3_join : ByteArray := prog_5_method_12_code
def yX3_join : MethodName := ⟨RX3, "join", "([I[IIII)I"⟩
abbrev cX3_dropTrace : ByteArray := prog_5_method_13_code
def yX3_dropTrace : MethodName := ⟨RX3, "dropTrace", "(III)V"⟩
abbrev cX3_removeTraces : ByteArray := prog_5_method_14_code
def yX3_removeTraces : MethodName := ⟨RX3, "removeTraces", "(I)V"⟩
abbrev cX3_removeAllTraces : ByteArray := prog_5_method_15_code
def yX3_removeAllTraces : MethodName := ⟨RX3, "removeAllTraces", "()V"⟩
abbrev cX3_removeWires : ByteArray := prog_5_method_16_code
def yX3_removeWires : MethodName := ⟨RX3, "removeWires", "(I)V"⟩
abbrev cX3_settle : ByteArray := prog_5_method_17_code
def yX3_settle : MethodName := ⟨RX3, "settle", "(I)V"⟩
abbrev cX3_hasTraces : ByteArray := prog_5_method_18_code
def yX3_hasTraces : MethodName := ⟨RX3, "hasTraces", "(I)Z"⟩
abbrev cX3_hasWires : ByteArray := prog_5_method_19_code
def yX3_hasWires : MethodName := ⟨RX3, "hasWires", "(I)Z"⟩
abbrev cX3_hasHoles : ByteArray := prog_5_method_20_code
def yX3_hasHoles : MethodName := ⟨RX3, "hasHoles", "(I)Z"⟩
abbrev cX3_anyMove : ByteArray := prog_5_method_21_code
def yX3_anyMove : MethodName := ⟨RX3, "anyMove", "([III)Z"⟩
abbrev cX3_copperAt : ByteArray := prog_5_method_22_code
def yX3_copperAt : MethodName := ⟨RX3, "copperAt", "(I)I"⟩
abbrev cX3_movesAt : ByteArray := prog_5_method_23_code
def yX3_movesAt : MethodName := ⟨RX3, "movesAt", "(II)I"⟩
abbrev cX3_lengthOf : ByteArray := prog_5_method_24_code
def yX3_lengthOf : MethodName := ⟨RX3, "lengthOf", "(I)I"⟩
abbrev cX3_viasOf : ByteArray := prog_5_method_25_code
def yX3_viasOf : MethodName := ⟨RX3, "viasOf", "(I)I"⟩
abbrev cX3_cellsOf : ByteArray := prog_5_method_26_code
def yX3_cellsOf : MethodName := ⟨RX3, "cellsOf", "(I)I"⟩
abbrev cX3_saveTraces : ByteArray := prog_5_method_27_code
def yX3_saveTraces : MethodName := ⟨RX3, "saveTraces", "()V"⟩
abbrev cX3_restoreTraces : ByteArray := prog_5_method_28_code
def yX3_restoreTraces : MethodName := ⟨RX3, "restoreTraces", "()V"⟩
abbrev cX3_isAsSaved : ByteArray := prog_5_method_29_code
def yX3_isAsSaved : MethodName := ⟨RX3, "isAsSaved", "()Z"⟩
def RX4 : String := "CopperBoard$Planes"
def TX4 : u_T := fun k => match k with
  | 0 => ("CopperBoard$Planes", "grid", "LCopperBoard$Grid;", true)
  | 1 => ("CopperBoard$Planes", "nets", "LCopperBoard$Nets;", true)
  | 2 => ("CopperBoard$Planes", "room", "LCopperBoard$Room;", true)
  | 3 => ("CopperBoard$Planes", "parts", "I", false)
  | _ => ("CopperBoard$Planes", "islands", "I", false)
def tyX4 : Nat → FieldType := fun k => match k with
  | 0 => .object "CopperBoard$Grid"
  | 1 => .object "CopperBoard$Nets"
  | 2 => .object "CopperBoard$Room"
  | 3 => .int
  | _ => .int
theorem nmX4 : ∀ a, a < 5 → ∀ b, b < 5 → a ≠ b → (TX4 a).2.1 ≠ (TX4 b).2.1 := by decide +kernel
theorem tyX4_ok : ∀ k, k < 5 → parseFieldDescriptor (TX4 k).2.2.1 = some (tyX4 k) := by decide +kernel
abbrev cX4_init : ByteArray := prog_6_method_1_code
def yX4_init : MethodName := ⟨RX4, "<init>", "(LCopperBoard$Grid;LCopperBoard$Nets;LCopperBoard$Room;)V"⟩
abbrev cX4_figure : ByteArray := prog_6_method_2_code
def yX4_figure : MethodName := ⟨RX4, "figure", "(III)I"⟩
abbrev cX4_partPlane : ByteArray := prog_6_method_3_code
def yX4_partPlane : MethodName := ⟨RX4, "partPlane", "(I)V"⟩
abbrev cX4_hasOwn : ByteArray := prog_6_method_4_code
def yX4_hasOwn : MethodName := ⟨RX4, "hasOwn", "(I)Z"⟩
abbrev cX4_necks : ByteArray := prog_6_method_5_code
def yX4_necks : MethodName := ⟨RX4, "necks", "(I)I"⟩
abbrev cX4_spokesAt : ByteArray := prog_6_method_6_code
def yX4_spokesAt : MethodName := ⟨RX4, "spokesAt", "(II)I"⟩
abbrev cX4_withoutReturn : ByteArray := prog_6_method_7_code
def yX4_withoutReturn : MethodName := ⟨RX4, "withoutReturn", "(III)I"⟩
def RX5 : String := "CopperBoard$Presser"
def TX5 : u_T := fun k => match k with
  | 0 => ("CopperBoard$Presser", "grid", "LCopperBoard$Grid;", true)
  | 1 => ("CopperBoard$Presser", "nets", "LCopperBoard$Nets;", true)
  | 2 => ("CopperBoard$Presser", "room", "LCopperBoard$Room;", true)
  | 3 => ("CopperBoard$Presser", "router", "LCopperBoard$Router;", true)
  | 4 => ("CopperBoard$Presser", "heat", "[I", true)
  | _ => ("CopperBoard$Presser", "crowded", "[I", true)
def tyX5 : Nat → FieldType := fun k => match k with
  | 0 => .object "CopperBoard$Grid"
  | 1 => .object "CopperBoard$Nets"
  | 2 => .object "CopperBoard$Room"
  | 3 => .object "CopperBoard$Router"
  | 4 => .array .int
  | _ => .array .int
theorem nmX5 : ∀ a, a < 6 → ∀ b, b < 6 → a ≠ b → (TX5 a).2.1 ≠ (TX5 b).2.1 := by decide +kernel
theorem tyX5_ok : ∀ k, k < 6 → parseFieldDescriptor (TX5 k).2.2.1 = some (tyX5 k) := by decide +kernel
abbrev cX5_init : ByteArray := prog_7_method_1_code
def yX5_init : MethodName := ⟨RX5, "<init>", "(LCopperBoard$Grid;LCopperBoard$Nets;LCopperBoard$Room;LCopperBoard$Router;)V"⟩
abbrev cX5_layInOrder : ByteArray := prog_7_method_2_code
def yX5_layInOrder : MethodName := ⟨RX5, "layInOrder", "()I"⟩
abbrev cX5_pressAll : ByteArray := prog_7_method_3_code
def yX5_pressAll : MethodName := ⟨RX5, "pressAll", "(II)I"⟩
abbrev cX5_layTurn : ByteArray := prog_7_method_4_code
def yX5_layTurn : MethodName := ⟨RX5, "layTurn", "(I)Z"⟩
abbrev cX5_warmCrowded : ByteArray := prog_7_method_5_code
def yX5_warmCrowded : MethodName := ⟨RX5, "warmCrowded", "()Z"⟩
abbrev cX5_orderFigure : ByteArray := prog_7_method_6_code
def yX5_orderFigure : MethodName := ⟨RX5, "orderFigure", "(I)I"⟩
abbrev cX5_pressFigure : ByteArray := prog_7_method_7_code
def yX5_pressFigure : MethodName := ⟨RX5, "pressFigure", "(III)I"⟩
abbrev cX5_withPins : ByteArray := prog_7_method_8_code
def yX5_withPins : MethodName := ⟨RX5, "withPins", "()I"⟩
abbrev cX5_wholeFigure : ByteArray := prog_7_method_9_code
def yX5_wholeFigure : MethodName := ⟨RX5, "wholeFigure", "(Z)I"⟩
def RX6 : String := "CopperBoard$Room"
def TX6 : u_T := fun k => match k with
  | 0 => ("CopperBoard$Room", "grid", "LCopperBoard$Grid;", true)
  | 1 => ("CopperBoard$Room", "nets", "LCopperBoard$Nets;", true)
  | 2 => ("CopperBoard$Room", "hard", "[I", true)
  | 3 => ("CopperBoard$Room", "soft", "[I", true)
  | 4 => ("CopperBoard$Room", "own", "[I", true)
  | 5 => ("CopperBoard$Room", "free", "[I", true)
  | 6 => ("CopperBoard$Room", "reached", "[I", true)
  | 7 => ("CopperBoard$Room", "queue", "[I", true)
  | 8 => ("CopperBoard$Room", "apart", "[I", true)
  | _ => ("CopperBoard$Room", "looking", "I", false)
def tyX6 : Nat → FieldType := fun k => match k with
  | 0 => .object "CopperBoard$Grid"
  | 1 => .object "CopperBoard$Nets"
  | 2 => .array .int
  | 3 => .array .int
  | 4 => .array .int
  | 5 => .array .int
  | 6 => .array .int
  | 7 => .array .int
  | 8 => .array .int
  | _ => .int
theorem nmX6 : ∀ a, a < 10 → ∀ b, b < 10 → a ≠ b → (TX6 a).2.1 ≠ (TX6 b).2.1 := by decide +kernel
theorem tyX6_ok : ∀ k, k < 10 → parseFieldDescriptor (TX6 k).2.2.1 = some (tyX6 k) := by decide +kernel
abbrev cX6_init : ByteArray := prog_8_method_1_code
def yX6_init : MethodName := ⟨RX6, "<init>", "(LCopperBoard$Grid;LCopperBoard$Nets;)V"⟩
abbrev cX6_look : ByteArray := prog_8_method_2_code
def yX6_look : MethodName := ⟨RX6, "look", "(IZ)V"⟩
abbrev cX6_partOthers : ByteArray := prog_8_method_3_code
def yX6_partOthers : MethodName := ⟨RX6, "partOthers", "(I)V"⟩
abbrev cX6_spreadAll : ByteArray := prog_8_method_4_code
def yX6_spreadAll : MethodName := ⟨RX6, "spreadAll", "(III)V"⟩
abbrev cX6_spread : ByteArray := prog_8_method_5_code
def yX6_spread : MethodName := ⟨RX6, "spread", "(IIII)V"⟩
abbrev cX6_mark : ByteArray := prog_8_method_6_code
def yX6_mark : MethodName := ⟨RX6, "mark", "(I)V"⟩
abbrev cX6_markPlane : ByteArray := prog_8_method_7_code
def yX6_markPlane : MethodName := ⟨RX6, "markPlane", "(I)V"⟩
abbrev cX6_isClear : ByteArray := prog_8_method_8_code
def yX6_isClear : MethodName := ⟨RX6, "isClear", "(II)Z"⟩
abbrev cX6_flood : ByteArray := prog_8_method_9_code
def yX6_flood : MethodName := ⟨RX6, "flood", "(II)I"⟩
abbrev cX6_floodMore : ByteArray := prog_8_method_10_code
def yX6_floodMore : MethodName := ⟨RX6, "floodMore", "(II)I"⟩
abbrev cX6_lowestUnreachedPin : ByteArray := prog_8_method_11_code
def yX6_lowestUnreachedPin : MethodName := ⟨RX6, "lowestUnreachedPin", "(I)I"⟩
abbrev cX6_joinsAllPins : ByteArray := prog_8_method_12_code
def yX6_joinsAllPins : MethodName := ⟨RX6, "joinsAllPins", "(II)Z"⟩
def RX7 : String := "CopperBoard$Router"
def TX7 : u_T := fun k => match k with
  | 0 => ("CopperBoard$Router", "grid", "LCopperBoard$Grid;", true)
  | 1 => ("CopperBoard$Router", "nets", "LCopperBoard$Nets;", true)
  | 2 => ("CopperBoard$Router", "room", "LCopperBoard$Room;", true)
  | 3 => ("CopperBoard$Router", "extra", "[I", true)
  | 4 => ("CopperBoard$Router", "joined", "[I", true)
  | 5 => ("CopperBoard$Router", "queue", "[I", true)
  | 6 => ("CopperBoard$Router", "best", "[I", true)
  | 7 => ("CopperBoard$Router", "heap", "[I", true)
  | 8 => ("CopperBoard$Router", "place", "[I", true)
  | 9 => ("CopperBoard$Router", "waiting", "I", false)
  | 10 => ("CopperBoard$Router", "lanes", "I", false)
  | 11 => ("CopperBoard$Router", "moves", "I", false)
  | 12 => ("CopperBoard$Router", "stepKey", "I", false)
  | 13 => ("CopperBoard$Router", "viaKey", "I", false)
  | _ => ("CopperBoard$Router", "bendKey", "I", false)
def tyX7 : Nat → FieldType := fun k => match k with
  | 0 => .object "CopperBoard$Grid"
  | 1 => .object "CopperBoard$Nets"
  | 2 => .object "CopperBoard$Room"
  | 3 => .array .int
  | 4 => .array .int
  | 5 => .array .int
  | 6 => .array .int
  | 7 => .array .int
  | 8 => .array .int
  | 9 => .int
  | 10 => .int
  | 11 => .int
  | 12 => .int
  | 13 => .int
  | _ => .int
theorem nmX7 : ∀ a, a < 15 → ∀ b, b < 15 → a ≠ b → (TX7 a).2.1 ≠ (TX7 b).2.1 := by decide +kernel
theorem tyX7_ok : ∀ k, k < 15 → parseFieldDescriptor (TX7 k).2.2.1 = some (tyX7 k) := by decide +kernel
abbrev cX7_init : ByteArray := prog_9_method_1_code
def yX7_init : MethodName := ⟨RX7, "<init>", "(LCopperBoard$Grid;LCopperBoard$Nets;LCopperBoard$Room;)V"⟩
abbrev cX7_layNet : ByteArray := prog_9_method_2_code
def yX7_layNet : MethodName := ⟨RX7, "layNet", "(I)I"⟩
abbrev cX7_tryCost : ByteArray := prog_9_method_3_code
def yX7_tryCost : MethodName := ⟨RX7, "tryCost", "(IZ)I"⟩
abbrev cX7_layRows : ByteArray := prog_9_method_4_code
def yX7_layRows : MethodName := ⟨RX7, "layRows", "(IZ)I"⟩
abbrev cX7_markJoined : ByteArray := prog_9_method_5_code
def yX7_markJoined : MethodName := ⟨RX7, "markJoined", "(I)V"⟩
abbrev cX7_search : ByteArray := prog_9_method_6_code
def yX7_search : MethodName := ⟨RX7, "search", "(I)Z"⟩
abbrev cX7_comeFrom : ByteArray := prog_9_method_7_code
def yX7_comeFrom : MethodName := ⟨RX7, "comeFrom", "(I)V"⟩
abbrev cX7_bendFrom : ByteArray := prog_9_method_8_code
def yX7_bendFrom : MethodName := ⟨RX7, "bendFrom", "(II)I"⟩
abbrev cX7_offer : ByteArray := prog_9_method_9_code
def yX7_offer : MethodName := ⟨RX7, "offer", "(II)V"⟩
abbrev cX7_takeLeast : ByteArray := prog_9_method_10_code
def yX7_takeLeast : MethodName := ⟨RX7, "takeLeast", "()I"⟩
abbrev cX7_walk : ByteArray := prog_9_method_11_code
def yX7_walk : MethodName := ⟨RX7, "walk", "(II)V"⟩
abbrev cX7_laneBehind : ByteArray := prog_9_method_12_code
def yX7_laneBehind : MethodName := ⟨RX7, "laneBehind", "(II)I"⟩
abbrev cX7_firstMove : ByteArray := prog_9_method_13_code
def yX7_firstMove : MethodName := ⟨RX7, "firstMove", "(II)I"⟩
def RX8 : String := "CopperBoard$Tape"
def TX8 : u_T := fun k => match k with
  | 0 => ("CopperBoard$Tape", "layers", "I", true)
  | 1 => ("CopperBoard$Tape", "bytes", "[I", true)
  | 2 => ("CopperBoard$Tape", "found", "[I", true)
  | 3 => ("CopperBoard$Tape", "length", "I", false)
  | 4 => ("CopperBoard$Tape", "at", "I", false)
  | _ => ("CopperBoard$Tape", "seen", "I", false)
def tyX8 : Nat → FieldType := fun k => match k with
  | 0 => .int
  | 1 => .array .int
  | 2 => .array .int
  | 3 => .int
  | 4 => .int
  | _ => .int
theorem nmX8 : ∀ a, a < 6 → ∀ b, b < 6 → a ≠ b → (TX8 a).2.1 ≠ (TX8 b).2.1 := by decide +kernel
theorem tyX8_ok : ∀ k, k < 6 → parseFieldDescriptor (TX8 k).2.2.1 = some (tyX8 k) := by decide +kernel
abbrev cX8_init : ByteArray := prog_10_method_1_code
def yX8_init : MethodName := ⟨RX8, "<init>", "(I)V"⟩
abbrev cX8_bytesIn : ByteArray := prog_10_method_2_code
def yX8_bytesIn : MethodName := ⟨RX8, "bytesIn", "(I)I"⟩
abbrev cX8_take : ByteArray := prog_10_method_3_code
def yX8_take : MethodName := ⟨RX8, "take", "(I)V"⟩
abbrev cX8_scan : ByteArray := prog_10_method_4_code
def yX8_scan : MethodName := ⟨RX8, "scan", "()I"⟩
abbrev cX8_readSetting : ByteArray := prog_10_method_5_code
def yX8_readSetting : MethodName := ⟨RX8, "readSetting", "()Z"⟩
abbrev cX8_kindHere : ByteArray := prog_10_method_6_code
def yX8_kindHere : MethodName := ⟨RX8, "kindHere", "()I"⟩
abbrev cX8_digitHere : ByteArray := prog_10_method_7_code
def yX8_digitHere : MethodName := ⟨RX8, "digitHere", "()I"⟩
abbrev cX8_skipBlanks : ByteArray := prog_10_method_8_code
def yX8_skipBlanks : MethodName := ⟨RX8, "skipBlanks", "()V"⟩
abbrev cX8_readNumber : ByteArray := prog_10_method_9_code
def yX8_readNumber : MethodName := ⟨RX8, "readNumber", "(I)Z"⟩
abbrev cX8_readLayers : ByteArray := prog_10_method_10_code
def yX8_readLayers : MethodName := ⟨RX8, "readLayers", "()Z"⟩
def RX9 : String := "CopperBoard$Trail"
def TX9 : u_T := fun k => match k with
  | 0 => ("CopperBoard$Trail", "grid", "LCopperBoard$Grid;", true)
  | 1 => ("CopperBoard$Trail", "nets", "LCopperBoard$Nets;", true)
  | 2 => ("CopperBoard$Trail", "room", "LCopperBoard$Room;", true)
  | 3 => ("CopperBoard$Trail", "cells", "[I", true)
  | 4 => ("CopperBoard$Trail", "moveFrom", "[I", true)
  | _ => ("CopperBoard$Trail", "steps", "I", false)
def tyX9 : Nat → FieldType := fun k => match k with
  | 0 => .object "CopperBoard$Grid"
  | 1 => .object "CopperBoard$Nets"
  | 2 => .object "CopperBoard$Room"
  | 3 => .array .int
  | 4 => .array .int
  | _ => .int
theorem nmX9 : ∀ a, a < 6 → ∀ b, b < 6 → a ≠ b → (TX9 a).2.1 ≠ (TX9 b).2.1 := by decide +kernel
theorem tyX9_ok : ∀ k, k < 6 → parseFieldDescriptor (TX9 k).2.2.1 = some (tyX9 k) := by decide +kernel
abbrev cX9_init : ByteArray := prog_11_method_1_code
def yX9_init : MethodName := ⟨RX9, "<init>", "(LCopperBoard$Grid;LCopperBoard$Nets;LCopperBoard$Room;)V"⟩
abbrev cX9_canFollow : ByteArray := prog_11_method_2_code
def yX9_canFollow : MethodName := ⟨RX9, "canFollow", "(I)Z"⟩
abbrev cX9_follow : ByteArray := prog_11_method_3_code
def yX9_follow : MethodName := ⟨RX9, "follow", "(I)V"⟩
abbrev cX9_bendOut : ByteArray := prog_11_method_4_code
def yX9_bendOut : MethodName := ⟨RX9, "bendOut", "(II)I"⟩
abbrev cX9_goBeside : ByteArray := prog_11_method_5_code
def yX9_goBeside : MethodName := ⟨RX9, "goBeside", "(IIII)Z"⟩
abbrev cX9_isOpen : ByteArray := prog_11_method_6_code
def yX9_isOpen : MethodName := ⟨RX9, "isOpen", "(II)Z"⟩
abbrev cX9_longestBeside : ByteArray := prog_11_method_7_code
def yX9_longestBeside : MethodName := ⟨RX9, "longestBeside", "(II)I"⟩
abbrev cX9_touches : ByteArray := prog_11_method_8_code
def yX9_touches : MethodName := ⟨RX9, "touches", "(II)Z"⟩
def RX10 : String := "CopperBoard$Trial"
def TX10 : u_T := fun k => match k with
  | 0 => ("CopperBoard$Trial", "grid", "LCopperBoard$Grid;", true)
  | 1 => ("CopperBoard$Trial", "nets", "LCopperBoard$Nets;", true)
  | 2 => ("CopperBoard$Trial", "room", "LCopperBoard$Room;", true)
  | 3 => ("CopperBoard$Trial", "chosen", "[I", true)
  | 4 => ("CopperBoard$Trial", "base", "[I", true)
  | 5 => ("CopperBoard$Trial", "ways", "[I", true)
  | 6 => ("CopperBoard$Trial", "amount", "I", false)
  | 7 => ("CopperBoard$Trial", "notFirstColumn", "I", false)
  | 8 => ("CopperBoard$Trial", "notLastColumn", "I", false)
  | 9 => ("CopperBoard$Trial", "notFirstRow", "I", false)
  | _ => ("CopperBoard$Trial", "notLastRow", "I", false)
def tyX10 : Nat → FieldType := fun k => match k with
  | 0 => .object "CopperBoard$Grid"
  | 1 => .object "CopperBoard$Nets"
  | 2 => .object "CopperBoard$Room"
  | 3 => .array .int
  | 4 => .array .int
  | 5 => .array .int
  | 6 => .int
  | 7 => .int
  | 8 => .int
  | 9 => .int
  | _ => .int
theorem nmX10 : ∀ a, a < 11 → ∀ b, b < 11 → a ≠ b → (TX10 a).2.1 ≠ (TX10 b).2.1 := by decide +kernel
theorem tyX10_ok : ∀ k, k < 11 → parseFieldDescriptor (TX10 k).2.2.1 = some (tyX10 k) := by decide +kernel
abbrev cX10_init : ByteArray := prog_12_method_1_code
def yX10_init : MethodName := ⟨RX10, "<init>", "(LCopperBoard$Grid;LCopperBoard$Nets;LCopperBoard$Room;)V"⟩
abbrev cX10_tryWholly : ByteArray := prog_12_method_2_code
def yX10_tryWholly : MethodName := ⟨RX10, "tryWholly", "(I)I"⟩
abbrev cX10_openCells : ByteArray := prog_12_method_3_code
def yX10_openCells : MethodName := ⟨RX10, "openCells", "(II)I"⟩
abbrev cX10_findWays : ByteArray := prog_12_method_4_code
def yX10_findWays : MethodName := ⟨RX10, "findWays", "(II)Z"⟩
abbrev cX10_extend : ByteArray := prog_12_method_5_code
def yX10_extend : MethodName := ⟨RX10, "extend", "(IIII)Z"⟩
abbrev cX10_laterCanJoin : ByteArray := prog_12_method_6_code
def yX10_laterCanJoin : MethodName := ⟨RX10, "laterCanJoin", "(II)Z"⟩
abbrev cX10_openAt : ByteArray := prog_12_method_7_code
def yX10_openAt : MethodName := ⟨RX10, "openAt", "(II)I"⟩
abbrev cX10_widened : ByteArray := prog_12_method_8_code
def yX10_widened : MethodName := ⟨RX10, "widened", "(II)I"⟩
abbrev cX10_oneMove : ByteArray := prog_12_method_9_code
def yX10_oneMove : MethodName := ⟨RX10, "oneMove", "(I)I"⟩
abbrev cX10_canReach : ByteArray := prog_12_method_10_code
def yX10_canReach : MethodName := ⟨RX10, "canReach", "(III)Z"⟩
def RX11 : String := "CopperBoard"
def TX11 : u_T := fun k => match k with
  | 0 => ("CopperBoard", "grid", "LCopperBoard$Grid;", true)
  | 1 => ("CopperBoard", "tape", "LCopperBoard$Tape;", true)
  | 2 => ("CopperBoard", "nets", "LCopperBoard$Nets;", true)
  | 3 => ("CopperBoard", "room", "LCopperBoard$Room;", true)
  | 4 => ("CopperBoard", "router", "LCopperBoard$Router;", true)
  | 5 => ("CopperBoard", "presser", "LCopperBoard$Presser;", true)
  | 6 => ("CopperBoard", "chooser", "LCopperBoard$Chooser;", true)
  | 7 => ("CopperBoard", "trial", "LCopperBoard$Trial;", true)
  | 8 => ("CopperBoard", "planes", "LCopperBoard$Planes;", true)
  | 9 => ("CopperBoard", "checks", "LCopperBoard$Checks;", true)
  | _ => ("CopperBoard", "trail", "LCopperBoard$Trail;", true)
def tyX11 : Nat → FieldType := fun k => match k with
  | 0 => .object "CopperBoard$Grid"
  | 1 => .object "CopperBoard$Tape"
  | 2 => .object "CopperBoard$Nets"
  | 3 => .object "CopperBoard$Room"
  | 4 => .object "CopperBoard$Router"
  | 5 => .object "CopperBoard$Presser"
  | 6 => .object "CopperBoard$Chooser"
  | 7 => .object "CopperBoard$Trial"
  | 8 => .object "CopperBoard$Planes"
  | 9 => .object "CopperBoard$Checks"
  | _ => .object "CopperBoard$Trail"
theorem nmX11 : ∀ a, a < 11 → ∀ b, b < 11 → a ≠ b → (TX11 a).2.1 ≠ (TX11 b).2.1 := by decide +kernel
theorem tyX11_ok : ∀ k, k < 11 → parseFieldDescriptor (TX11 k).2.2.1 = some (tyX11 k) := by decide +kernel
abbrev cX11_init : ByteArray := prog_1_method_1_code
def yX11_init : MethodName := ⟨RX11, "<init>", "(III)V"⟩
abbrev cX11_feed : ByteArray := prog_1_method_2_code
def yX11_feed : MethodName := ⟨RX11, "feed", "(IIIII)I"⟩
abbrev cX11_end : ByteArray := prog_1_method_3_code
def yX11_end : MethodName := ⟨RX11, "end", "(I)Z"⟩
abbrev cX11_fault : ByteArray := prog_1_method_4_code
def yX11_fault : MethodName := ⟨RX11, "fault", "()I"⟩
abbrev cX11_sort : ByteArray := prog_1_method_5_code
def yX11_sort : MethodName := ⟨RX11, "sort", "()I"⟩
abbrev cX11_told : ByteArray := prog_1_method_6_code
def yX11_told : MethodName := ⟨RX11, "told", "(II)I"⟩
abbrev cX11_net : ByteArray := prog_1_method_7_code
def yX11_net : MethodName := ⟨RX11, "net", "(I)I"⟩
abbrev cX11_pin : ByteArray := prog_1_method_8_code
def yX11_pin : MethodName := ⟨RX11, "pin", "(IIII)I"⟩
abbrev cX11_keep : ByteArray := prog_1_method_9_code
def yX11_keep : MethodName := ⟨RX11, "keep", "(IIIII)Z"⟩
abbrev cX11_wire : ByteArray := prog_1_method_10_code
def yX11_wire : MethodName := ⟨RX11, "wire", "(IIIIII)Z"⟩
abbrev cX11_hole : ByteArray := prog_1_method_11_code
def yX11_hole : MethodName := ⟨RX11, "hole", "(IIII)Z"⟩
abbrev cX11_copper : ByteArray := prog_1_method_12_code
def yX11_copper : MethodName := ⟨RX11, "copper", "(III)I"⟩
abbrev cX11_free : ByteArray := prog_1_method_13_code
def yX11_free : MethodName := ⟨RX11, "free", "(IIII)I"⟩
abbrev cX11_lay : ByteArray := prog_1_method_14_code
def yX11_lay : MethodName := ⟨RX11, "lay", "(I)I"⟩
abbrev cX11_cost : ByteArray := prog_1_method_15_code
def yX11_cost : MethodName := ⟨RX11, "cost", "(IZ)I"⟩
abbrev cX11_rip : ByteArray := prog_1_method_16_code
def yX11_rip : MethodName := ⟨RX11, "rip", "(I)Z"⟩
abbrev cX11_rank : ByteArray := prog_1_method_17_code
def yX11_rank : MethodName := ⟨RX11, "rank", "(II)Z"⟩
abbrev cX11_order : ByteArray := prog_1_method_18_code
def yX11_order : MethodName := ⟨RX11, "order", "()I"⟩
abbrev cX11_press : ByteArray := prog_1_method_19_code
def yX11_press : MethodName := ⟨RX11, "press", "(II)I"⟩
abbrev cX11_cut : ByteArray := prog_1_method_20_code
def yX11_cut : MethodName := ⟨RX11, "cut", "(II)I"⟩
abbrev cX11_bars : ByteArray := prog_1_method_21_code
def yX11_bars : MethodName := ⟨RX11, "bars", "(I)I"⟩
abbrev cX11_together : ByteArray := prog_1_method_22_code
def yX11_together : MethodName := ⟨RX11, "together", "(I)I"⟩
abbrev cX11_about : ByteArray := prog_1_method_23_code
def yX11_about : MethodName := ⟨RX11, "about", "(II)I"⟩
abbrev cX11_stretch : ByteArray := prog_1_method_24_code
def yX11_stretch : MethodName := ⟨RX11, "stretch", "(II)I"⟩
abbrev cX11_span : ByteArray := prog_1_method_25_code
def yX11_span : MethodName := ⟨RX11, "span", "(I)I"⟩
abbrev cX11_equal : ByteArray := prog_1_method_26_code
def yX11_equal : MethodName := ⟨RX11, "equal", "(II)I"⟩
abbrev cX11_plane : ByteArray := prog_1_method_27_code
def yX11_plane : MethodName := ⟨RX11, "plane", "(III)I"⟩
abbrev cX11_spokes : ByteArray := prog_1_method_28_code
def yX11_spokes : MethodName := ⟨RX11, "spokes", "(II)I"⟩
abbrev cX11_back : ByteArray := prog_1_method_29_code
def yX11_back : MethodName := ⟨RX11, "back", "(III)I"⟩
abbrev cX11_wander : ByteArray := prog_1_method_30_code
def yX11_wander : MethodName := ⟨RX11, "wander", "(III)I"⟩
abbrev cX11_worst : ByteArray := prog_1_method_31_code
def yX11_worst : MethodName := ⟨RX11, "worst", "(II)I"⟩
abbrev cX11_late : ByteArray := prog_1_method_32_code
def yX11_late : MethodName := ⟨RX11, "late", "(IIIII)I"⟩
abbrev cX11_netlist : ByteArray := prog_1_method_33_code
def yX11_netlist : MethodName := ⟨RX11, "netlist", "(I)I"⟩
abbrev cX11_test : ByteArray := prog_1_method_34_code
def yX11_test : MethodName := ⟨RX11, "test", "(I)I"⟩
abbrev cX11_slow : ByteArray := prog_1_method_35_code
def yX11_slow : MethodName := ⟨RX11, "slow", "(II)Z"⟩
abbrev cX11_delay : ByteArray := prog_1_method_36_code
def yX11_delay : MethodName := ⟨RX11, "delay", "(I)I"⟩
abbrev cX11_pair : ByteArray := prog_1_method_37_code
def yX11_pair : MethodName := ⟨RX11, "pair", "(III)I"⟩
abbrev cX11_beside : ByteArray := prog_1_method_38_code
def yX11_beside : MethodName := ⟨RX11, "beside", "(III)I"⟩
abbrev cX11_why : ByteArray := prog_1_method_39_code
def yX11_why : MethodName := ⟨RX11, "why", "(I)I"⟩
abbrev cX11_steady : ByteArray := prog_1_method_40_code
def yX11_steady : MethodName := ⟨RX11, "steady", "()Z"⟩
abbrev cX11_panel : ByteArray := prog_1_method_41_code
def yX11_panel : MethodName := ⟨RX11, "panel", "(IIII)I"⟩
abbrev cX11_unwire : ByteArray := prog_1_method_42_code
def yX11_unwire : MethodName := ⟨RX11, "unwire", "(I)Z"⟩
abbrev cX11_count : ByteArray := prog_1_method_43_code
def yX11_count : MethodName := ⟨RX11, "count", "(I)I"⟩
abbrev cX11_within : ByteArray := prog_1_method_44_code
def yX11_within : MethodName := ⟨RX11, "within", "(III)I"⟩
abbrev cX11_isNet : ByteArray := prog_1_method_45_code
def yX11_isNet : MethodName := ⟨RX11, "isNet", "(I)Z"⟩
abbrev cX11_isLayer : ByteArray := prog_1_method_46_code
def yX11_isLayer : MethodName := ⟨RX11, "isLayer", "(I)Z"⟩
abbrev cX11_areNets : ByteArray := prog_1_method_47_code
def yX11_areNets : MethodName := ⟨RX11, "areNets", "(I)Z"⟩
abbrev cX11_arePressing : ByteArray := prog_1_method_48_code
def yX11_arePressing : MethodName := ⟨RX11, "arePressing", "(II)Z"⟩
abbrev cX11_fitting : ByteArray := prog_1_method_49_code
def yX11_fitting : MethodName := ⟨RX11, "fitting", "(III)I"⟩
abbrev cX11_splitSheet : ByteArray := prog_1_method_50_code
def yX11_splitSheet : MethodName := ⟨RX11, "splitSheet", "(IIIZ)I"⟩
def RX12 : String := "CopperBoardModel"
def TX12 : u_T := fun k => match k with
  | 0 => ("CopperBoardModel", "thrown", "I", false)
  | 1 => ("CopperBoardModel", "wide", "I", true)
  | 2 => ("CopperBoardModel", "deep", "I", true)
  | 3 => ("CopperBoardModel", "layers", "I", true)
  | 4 => ("CopperBoardModel", "tape", "[I", true)
  | 5 => ("CopperBoardModel", "size", "I", false)
  | 6 => ("CopperBoardModel", "at", "I", false)
  | 7 => ("CopperBoardModel", "wrong", "I", false)
  | 8 => ("CopperBoardModel", "step", "[I", true)
  | 9 => ("CopperBoardModel", "via", "[I", true)
  | 10 => ("CopperBoardModel", "bend", "[I", true)
  | 11 => ("CopperBoardModel", "clear", "[I", true)
  | 12 => ("CopperBoardModel", "on", "[I", true)
  | 13 => ("CopperBoardModel", "sorts", "I", false)
  | 14 => ("CopperBoardModel", "given", "I", false)
  | 15 => ("CopperBoardModel", "sortOf", "[I", true)
  | 16 => ("CopperBoardModel", "rank", "[I", true)
  | 17 => ("CopperBoardModel", "pins", "[I", true)
  | 18 => ("CopperBoardModel", "pinAt", "[I", true)
  | 19 => ("CopperBoardModel", "wires", "[I", true)
  | 20 => ("CopperBoardModel", "wireFrom", "[I", true)
  | 21 => ("CopperBoardModel", "wireTo", "[I", true)
  | 22 => ("CopperBoardModel", "traces", "[I", true)
  | 23 => ("CopperBoardModel", "traceFrom", "[I", true)
  | 24 => ("CopperBoardModel", "traceTo", "[I", true)
  | 25 => ("CopperBoardModel", "kept", "[Z", true)
  | 26 => ("CopperBoardModel", "nets", "I", false)
  | 27 => ("CopperBoardModel", "copper", "[I", true)
  | 28 => ("CopperBoardModel", "gone", "I", false)
  | 29 => ("CopperBoardModel", "self", "I", false)
  | 30 => ("CopperBoardModel", "presses", "Z", false)
  | 31 => ("CopperBoardModel", "oldFrom", "[I", true)
  | 32 => ("CopperBoardModel", "oldTo", "[I", true)
  | 33 => ("CopperBoardModel", "olds", "I", false)
  | 34 => ("CopperBoardModel", "allFrom", "[I", true)
  | 35 => ("CopperBoardModel", "allTo", "[I", true)
  | 36 => ("CopperBoardModel", "allMany", "[I", true)
  | 37 => ("CopperBoardModel", "joined", "[Z", true)
  | 38 => ("CopperBoardModel", "still", "[I", true)
  | 39 => ("CopperBoardModel", "open", "[Z", true)
  | 40 => ("CopperBoardModel", "extra", "[I", true)
  | 41 => ("CopperBoardModel", "hasVias", "Z", false)
  | 42 => ("CopperBoardModel", "heat", "[I", true)
  | 43 => ("CopperBoardModel", "reached", "[Z", true)
  | 44 => ("CopperBoardModel", "row", "[I", true)
  | 45 => ("CopperBoardModel", "plane", "[Z", true)
  | 46 => ("CopperBoardModel", "part", "[I", true)
  | 47 => ("CopperBoardModel", "shorts", "I", false)
  | 48 => ("CopperBoardModel", "opens", "I", false)
  | 49 => ("CopperBoardModel", "node", "[I", true)
  | 50 => ("CopperBoardModel", "slow", "[I", true)
  | 51 => ("CopperBoardModel", "nowFrom", "[I", true)
  | 52 => ("CopperBoardModel", "nowTo", "[I", true)
  | _ => ("CopperBoardModel", "nowMany", "[I", true)
def tyX12 : Nat → FieldType := fun k => match k with
  | 0 => .int
  | 1 => .int
  | 2 => .int
  | 3 => .int
  | 4 => .array .int
  | 5 => .int
  | 6 => .int
  | 7 => .int
  | 8 => .array .int
  | 9 => .array .int
  | 10 => .array .int
  | 11 => .array .int
  | 12 => .array .int
  | 13 => .int
  | 14 => .int
  | 15 => .array .int
  | 16 => .array .int
  | 17 => .array .int
  | 18 => .array .int
  | 19 => .array .int
  | 20 => .array .int
  | 21 => .array .int
  | 22 => .array .int
  | 23 => .array .int
  | 24 => .array .int
  | 25 => .array .boolean
  | 26 => .int
  | 27 => .array .int
  | 28 => .int
  | 29 => .int
  | 30 => .boolean
  | 31 => .array .int
  | 32 => .array .int
  | 33 => .int
  | 34 => .array .int
  | 35 => .array .int
  | 36 => .array .int
  | 37 => .array .boolean
  | 38 => .array .int
  | 39 => .array .boolean
  | 40 => .array .int
  | 41 => .boolean
  | 42 => .array .int
  | 43 => .array .boolean
  | 44 => .array .int
  | 45 => .array .boolean
  | 46 => .array .int
  | 47 => .int
  | 48 => .int
  | 49 => .array .int
  | 50 => .array .int
  | 51 => .array .int
  | 52 => .array .int
  | _ => .array .int
theorem nmX12 : ∀ a, a < 54 → ∀ b, b < 54 → a ≠ b → (TX12 a).2.1 ≠ (TX12 b).2.1 := by decide +kernel
theorem tyX12_ok : ∀ k, k < 54 → parseFieldDescriptor (TX12 k).2.2.1 = some (tyX12 k) := by decide +kernel
abbrev cX12_in : ByteArray := prog_14_method_1_code
def yX12_in : MethodName := ⟨RX12, "in", "(III)Z"⟩
abbrev cX12_within : ByteArray := prog_14_method_2_code
def yX12_within : MethodName := ⟨RX12, "within", "(III)I"⟩
abbrev cX12_init : ByteArray := prog_14_method_3_code
def yX12_init : MethodName := ⟨RX12, "<init>", "(III)V"⟩
abbrev cX12_thrown : ByteArray := prog_14_method_4_code
def yX12_thrown : MethodName := ⟨RX12, "thrown", "()I"⟩
abbrev cX12_byteOf : ByteArray := prog_14_method_5_code
def yX12_byteOf : MethodName := ⟨RX12, "byteOf", "(IIIIII)I"⟩
abbrev cX12_feed : ByteArray := prog_14_method_6_code
def yX12_feed : MethodName := ⟨RX12, "feed", "(IIIII)I"⟩
abbrev cX12_end : ByteArray := prog_14_method_7_code
def yX12_end : MethodName := ⟨RX12, "end", "(I)Z"⟩
abbrev cX12_here : ByteArray := prog_14_method_8_code
def yX12_here : MethodName := ⟨RX12, "here", "()I"⟩
abbrev cX12_look : ByteArray := prog_14_method_9_code
def yX12_look : MethodName := ⟨RX12, "look", "()I"⟩
abbrev cX12_bad : ByteArray := prog_14_method_10_code
def yX12_bad : MethodName := ⟨RX12, "bad", "()V"⟩
abbrev cX12_isDigit : ByteArray := prog_14_method_11_code
def yX12_isDigit : MethodName := ⟨RX12, "isDigit", "(I)Z"⟩
abbrev cX12_number : ByteArray := prog_14_method_12_code
def yX12_number : MethodName := ⟨RX12, "number", "(II)I"⟩
abbrev cX12_letterAt : ByteArray := prog_14_method_13_code
def yX12_letterAt : MethodName := ⟨RX12, "letterAt", "(I)I"⟩
abbrev cX12_setting : ByteArray := prog_14_method_14_code
def yX12_setting : MethodName := ⟨RX12, "setting", "(I)V"⟩
abbrev cX12_readLayers : ByteArray := prog_14_method_15_code
def yX12_readLayers : MethodName := ⟨RX12, "readLayers", "(I)V"⟩
abbrev cX12_readSort : ByteArray := prog_14_method_16_code
def yX12_readSort : MethodName := ⟨RX12, "readSort", "(I)I"⟩
abbrev cX12_fault : ByteArray := prog_14_method_17_code
def yX12_fault : MethodName := ⟨RX12, "fault", "()I"⟩
abbrev cX12_sort : ByteArray := prog_14_method_18_code
def yX12_sort : MethodName := ⟨RX12, "sort", "()I"⟩
abbrev cX12_told : ByteArray := prog_14_method_19_code
def yX12_told : MethodName := ⟨RX12, "told", "(II)I"⟩
abbrev cX12_isNet : ByteArray := prog_14_method_20_code
def yX12_isNet : MethodName := ⟨RX12, "isNet", "(I)Z"⟩
abbrev cX12_isCell : ByteArray := prog_14_method_21_code
def yX12_isCell : MethodName := ⟨RX12, "isCell", "(III)Z"⟩
abbrev cX12_cell : ByteArray := prog_14_method_22_code
def yX12_cell : MethodName := ⟨RX12, "cell", "(III)I"⟩
abbrev cX12_xOf : ByteArray := prog_14_method_23_code
def yX12_xOf : MethodName := ⟨RX12, "xOf", "(I)I"⟩
abbrev cX12_yOf : ByteArray := prog_14_method_24_code
def yX12_yOf : MethodName := ⟨RX12, "yOf", "(I)I"⟩
abbrev cX12_layerOf : ByteArray := prog_14_method_25_code
def yX12_layerOf : MethodName := ⟨RX12, "layerOf", "(I)I"⟩
abbrev cX12_moved : ByteArray := prog_14_method_26_code
def yX12_moved : MethodName := ⟨RX12, "moved", "(II)I"⟩
abbrev cX12_net : ByteArray := prog_14_method_27_code
def yX12_net : MethodName := ⟨RX12, "net", "(I)I"⟩
abbrev cX12_pinOn : ByteArray := prog_14_method_28_code
def yX12_pinOn : MethodName := ⟨RX12, "pinOn", "(I)I"⟩
abbrev cX12_pin : ByteArray := prog_14_method_29_code
def yX12_pin : MethodName := ⟨RX12, "pin", "(IIII)I"⟩
abbrev cX12_keep : ByteArray := prog_14_method_30_code
def yX12_keep : MethodName := ⟨RX12, "keep", "(IIIII)Z"⟩
abbrev cX12_hasWire : ByteArray := prog_14_method_31_code
def yX12_hasWire : MethodName := ⟨RX12, "hasWire", "(III)Z"⟩
abbrev cX12_addWire : ByteArray := prog_14_method_32_code
def yX12_addWire : MethodName := ⟨RX12, "addWire", "(III)V"⟩
abbrev cX12_wire : ByteArray := prog_14_method_33_code
def yX12_wire : MethodName := ⟨RX12, "wire", "(IIIIII)Z"⟩
abbrev cX12_hole : ByteArray := prog_14_method_34_code
def yX12_hole : MethodName := ⟨RX12, "hole", "(IIII)Z"⟩
abbrev cX12_has : ByteArray := prog_14_method_35_code
def yX12_has : MethodName := ⟨RX12, "has", "(II)Z"⟩
abbrev cX12_copper : ByteArray := prog_14_method_36_code
def yX12_copper : MethodName := ⟨RX12, "copper", "(III)I"⟩
abbrev cX12_counts : ByteArray := prog_14_method_37_code
def yX12_counts : MethodName := ⟨RX12, "counts", "(II)Z"⟩
abbrev cX12_apart : ByteArray := prog_14_method_38_code
def yX12_apart : MethodName := ⟨RX12, "apart", "(II)I"⟩
abbrev cX12_isNear : ByteArray := prog_14_method_39_code
def yX12_isNear : MethodName := ⟨RX12, "isNear", "(III)Z"⟩
abbrev cX12_isFree : ByteArray := prog_14_method_40_code
def yX12_isFree : MethodName := ⟨RX12, "isFree", "(IIZ)Z"⟩
abbrev cX12_free : ByteArray := prog_14_method_41_code
def yX12_free : MethodName := ⟨RX12, "free", "(IIII)I"⟩
abbrev cX12_paint : ByteArray := prog_14_method_42_code
def yX12_paint : MethodName := ⟨RX12, "paint", "(I)V"⟩
abbrev cX12_takeOff : ByteArray := prog_14_method_43_code
def yX12_takeOff : MethodName := ⟨RX12, "takeOff", "(I)V"⟩
abbrev cX12_putBack : ByteArray := prog_14_method_44_code
def yX12_putBack : MethodName := ⟨RX12, "putBack", "(I)V"⟩
abbrev cX12_addTrace : ByteArray := prog_14_method_45_code
def yX12_addTrace : MethodName := ⟨RX12, "addTrace", "(III)V"⟩
abbrev cX12_takeAllOff : ByteArray := prog_14_method_46_code
def yX12_takeAllOff : MethodName := ⟨RX12, "takeAllOff", "()V"⟩
abbrev cX12_ripAll : ByteArray := prog_14_method_47_code
def yX12_ripAll : MethodName := ⟨RX12, "ripAll", "()V"⟩
abbrev cX12_putAllBack : ByteArray := prog_14_method_48_code
def yX12_putAllBack : MethodName := ⟨RX12, "putAllBack", "()V"⟩
abbrev cX12_joins : ByteArray := prog_14_method_49_code
def yX12_joins : MethodName := ⟨RX12, "joins", "(II)Z"⟩
abbrev cX12_join : ByteArray := prog_14_method_50_code
def yX12_join : MethodName := ⟨RX12, "join", "(II)V"⟩
abbrev cX12_costOf : ByteArray := prog_14_method_51_code
def yX12_costOf : MethodName := ⟨RX12, "costOf", "(IIII)I"⟩
abbrev cX12_bestFrom : ByteArray := prog_14_method_52_code
def yX12_bestFrom : MethodName := ⟨RX12, "bestFrom", "(III)I"⟩
abbrev cX12_relax : ByteArray := prog_14_method_53_code
def yX12_relax : MethodName := ⟨RX12, "relax", "(II)Z"⟩
abbrev cX12_weigh : ByteArray := prog_14_method_54_code
def yX12_weigh : MethodName := ⟨RX12, "weigh", "(I)V"⟩
abbrev cX12_leads : ByteArray := prog_14_method_55_code
def yX12_leads : MethodName := ⟨RX12, "leads", "(IIII)Z"⟩
abbrev cX12_go : ByteArray := prog_14_method_56_code
def yX12_go : MethodName := ⟨RX12, "go", "(II)I"⟩
abbrev cX12_layNet : ByteArray := prog_14_method_57_code
def yX12_layNet : MethodName := ⟨RX12, "layNet", "(I)I"⟩
abbrev cX12_plainly : ByteArray := prog_14_method_58_code
def yX12_plainly : MethodName := ⟨RX12, "plainly", "(Z)V"⟩
abbrev cX12_lay : ByteArray := prog_14_method_59_code
def yX12_lay : MethodName := ⟨RX12, "lay", "(I)I"⟩
abbrev cX12_tried : ByteArray := prog_14_method_60_code
def yX12_tried : MethodName := ⟨RX12, "tried", "(I)I"⟩
abbrev cX12_cost : ByteArray := prog_14_method_61_code
def yX12_cost : MethodName := ⟨RX12, "cost", "(IZ)I"⟩
abbrev cX12_rip : ByteArray := prog_14_method_62_code
def yX12_rip : MethodName := ⟨RX12, "rip", "(I)Z"⟩
abbrev cX12_rank : ByteArray := prog_14_method_63_code
def yX12_rank : MethodName := ⟨RX12, "rank", "(II)Z"⟩
abbrev cX12_order : ByteArray := prog_14_method_64_code
def yX12_order : MethodName := ⟨RX12, "order", "()I"⟩
abbrev cX12_hasTrace : ByteArray := prog_14_method_65_code
def yX12_hasTrace : MethodName := ⟨RX12, "hasTrace", "(II)Z"⟩
abbrev cX12_isTraceNear : ByteArray := prog_14_method_66_code
def yX12_isTraceNear : MethodName := ⟨RX12, "isTraceNear", "(III)Z"⟩
abbrev cX12_tracesNear : ByteArray := prog_14_method_67_code
def yX12_tracesNear : MethodName := ⟨RX12, "tracesNear", "(II)I"⟩
abbrev cX12_isInside : ByteArray := prog_14_method_68_code
def yX12_isInside : MethodName := ⟨RX12, "isInside", "(I)Z"⟩
abbrev cX12_turn : ByteArray := prog_14_method_69_code
def yX12_turn : MethodName := ⟨RX12, "turn", "(I)Z"⟩
abbrev cX12_crowd : ByteArray := prog_14_method_70_code
def yX12_crowd : MethodName := ⟨RX12, "crowd", "()I"⟩
abbrev cX12_press : ByteArray := prog_14_method_71_code
def yX12_press : MethodName := ⟨RX12, "press", "(II)I"⟩
abbrev cX12_reach : ByteArray := prog_14_method_72_code
def yX12_reach : MethodName := ⟨RX12, "reach", "(I)V"⟩
abbrev cX12_isBeside : ByteArray := prog_14_method_73_code
def yX12_isBeside : MethodName := ⟨RX12, "isBeside", "(I)Z"⟩
abbrev cX12_isWall : ByteArray := prog_14_method_74_code
def yX12_isWall : MethodName := ⟨RX12, "isWall", "(I)Z"⟩
abbrev cX12_cutOf : ByteArray := prog_14_method_75_code
def yX12_cutOf : MethodName := ⟨RX12, "cutOf", "(II)I"⟩
abbrev cX12_cut : ByteArray := prog_14_method_76_code
def yX12_cut : MethodName := ⟨RX12, "cut", "(II)I"⟩
abbrev cX12_isAhead : ByteArray := prog_14_method_77_code
def yX12_isAhead : MethodName := ⟨RX12, "isAhead", "(II)Z"⟩
abbrev cX12_bars : ByteArray := prog_14_method_78_code
def yX12_bars : MethodName := ⟨RX12, "bars", "(I)I"⟩
abbrev cX12_goOn : ByteArray := prog_14_method_79_code
def yX12_goOn : MethodName := ⟨RX12, "goOn", "(IIII)Z"⟩
abbrev cX12_isPlainFrom : ByteArray := prog_14_method_80_code
def yX12_isPlainFrom : MethodName := ⟨RX12, "isPlainFrom", "(III)Z"⟩
abbrev cX12_findAll : ByteArray := prog_14_method_81_code
def yX12_findAll : MethodName := ⟨RX12, "findAll", "(II)Z"⟩
abbrev cX12_together : ByteArray := prog_14_method_82_code
def yX12_together : MethodName := ⟨RX12, "together", "(I)I"⟩
abbrev cX12_lengthOf : ByteArray := prog_14_method_83_code
def yX12_lengthOf : MethodName := ⟨RX12, "lengthOf", "(I)I"⟩
abbrev cX12_about : ByteArray := prog_14_method_84_code
def yX12_about : MethodName := ⟨RX12, "about", "(II)I"⟩
abbrev cX12_isStretched : ByteArray := prog_14_method_85_code
def yX12_isStretched : MethodName := ⟨RX12, "isStretched", "(I)Z"⟩
abbrev cX12_wayFrom : ByteArray := prog_14_method_86_code
def yX12_wayFrom : MethodName := ⟨RX12, "wayFrom", "(II)I"⟩
abbrev cX12_isRoom : ByteArray := prog_14_method_87_code
def yX12_isRoom : MethodName := ⟨RX12, "isRoom", "(II)Z"⟩
abbrev cX12_bulge : ByteArray := prog_14_method_88_code
def yX12_bulge : MethodName := ⟨RX12, "bulge", "(IIII)Z"⟩
abbrev cX12_stretched : ByteArray := prog_14_method_89_code
def yX12_stretched : MethodName := ⟨RX12, "stretched", "(II)I"⟩
abbrev cX12_stretch : ByteArray := prog_14_method_90_code
def yX12_stretch : MethodName := ⟨RX12, "stretch", "(II)I"⟩
abbrev cX12_span : ByteArray := prog_14_method_91_code
def yX12_span : MethodName := ⟨RX12, "span", "(I)I"⟩
abbrev cX12_equal : ByteArray := prog_14_method_92_code
def yX12_equal : MethodName := ⟨RX12, "equal", "(II)I"⟩
abbrev cX12_spread : ByteArray := prog_14_method_93_code
def yX12_spread : MethodName := ⟨RX12, "spread", "(II)V"⟩
abbrev cX12_parts : ByteArray := prog_14_method_94_code
def yX12_parts : MethodName := ⟨RX12, "parts", "(IIIZ)I"⟩
abbrev cX12_mingle : ByteArray := prog_14_method_95_code
def yX12_mingle : MethodName := ⟨RX12, "mingle", "(II)Z"⟩
abbrev cX12_plane : ByteArray := prog_14_method_96_code
def yX12_plane : MethodName := ⟨RX12, "plane", "(III)I"⟩
abbrev cX12_spokes : ByteArray := prog_14_method_97_code
def yX12_spokes : MethodName := ⟨RX12, "spokes", "(II)I"⟩
abbrev cX12_back : ByteArray := prog_14_method_98_code
def yX12_back : MethodName := ⟨RX12, "back", "(III)I"⟩
abbrev cX12_strike : ByteArray := prog_14_method_99_code
def yX12_strike : MethodName := ⟨RX12, "strike", "(IIIII)V"⟩
abbrev cX12_isFirstThere : ByteArray := prog_14_method_100_code
def yX12_isFirstThere : MethodName := ⟨RX12, "isFirstThere", "(II)Z"⟩
abbrev cX12_findWander : ByteArray := prog_14_method_101_code
def yX12_findWander : MethodName := ⟨RX12, "findWander", "(II)V"⟩
abbrev cX12_wander : ByteArray := prog_14_method_102_code
def yX12_wander : MethodName := ⟨RX12, "wander", "(III)I"⟩
abbrev cX12_worst : ByteArray := prog_14_method_103_code
def yX12_worst : MethodName := ⟨RX12, "worst", "(II)I"⟩
abbrev cX12_layWith : ByteArray := prog_14_method_104_code
def yX12_layWith : MethodName := ⟨RX12, "layWith", "(II)Z"⟩
abbrev cX12_ripSome : ByteArray := prog_14_method_105_code
def yX12_ripSome : MethodName := ⟨RX12, "ripSome", "(I)V"⟩
abbrev cX12_movePin : ByteArray := prog_14_method_106_code
def yX12_movePin : MethodName := ⟨RX12, "movePin", "(III)V"⟩
abbrev cX12_late : ByteArray := prog_14_method_107_code
def yX12_late : MethodName := ⟨RX12, "late", "(IIIII)I"⟩
abbrev cX12_find : ByteArray := prog_14_method_108_code
def yX12_find : MethodName := ⟨RX12, "find", "(I)I"⟩
abbrev cX12_unite : ByteArray := prog_14_method_109_code
def yX12_unite : MethodName := ⟨RX12, "unite", "(II)V"⟩
abbrev cX12_uniteAll : ByteArray := prog_14_method_110_code
def yX12_uniteAll : MethodName := ⟨RX12, "uniteAll", "()V"⟩
abbrev cX12_areShort : ByteArray := prog_14_method_111_code
def yX12_areShort : MethodName := ⟨RX12, "areShort", "(II)Z"⟩
abbrev cX12_netlist : ByteArray := prog_14_method_112_code
def yX12_netlist : MethodName := ⟨RX12, "netlist", "(I)I"⟩
abbrev cX12_isAlone : ByteArray := prog_14_method_113_code
def yX12_isAlone : MethodName := ⟨RX12, "isAlone", "(II)Z"⟩
abbrev cX12_test : ByteArray := prog_14_method_114_code
def yX12_test : MethodName := ⟨RX12, "test", "(I)I"⟩
abbrev cX12_slow : ByteArray := prog_14_method_115_code
def yX12_slow : MethodName := ⟨RX12, "slow", "(II)Z"⟩
abbrev cX12_delayed : ByteArray := prog_14_method_116_code
def yX12_delayed : MethodName := ⟨RX12, "delayed", "(II)I"⟩
abbrev cX12_delayOf : ByteArray := prog_14_method_117_code
def yX12_delayOf : MethodName := ⟨RX12, "delayOf", "(I)I"⟩
abbrev cX12_delay : ByteArray := prog_14_method_118_code
def yX12_delay : MethodName := ⟨RX12, "delay", "(I)I"⟩
abbrev cX12_isBy : ByteArray := prog_14_method_119_code
def yX12_isBy : MethodName := ⟨RX12, "isBy", "(II)Z"⟩
abbrev cX12_pair : ByteArray := prog_14_method_120_code
def yX12_pair : MethodName := ⟨RX12, "pair", "(III)I"⟩
abbrev cX12_byAll : ByteArray := prog_14_method_121_code
def yX12_byAll : MethodName := ⟨RX12, "byAll", "(II)I"⟩
abbrev cX12_longest : ByteArray := prog_14_method_122_code
def yX12_longest : MethodName := ⟨RX12, "longest", "(II)I"⟩
abbrev cX12_away : ByteArray := prog_14_method_123_code
def yX12_away : MethodName := ⟨RX12, "away", "(II)I"⟩
abbrev cX12_keepNow : ByteArray := prog_14_method_124_code
def yX12_keepNow : MethodName := ⟨RX12, "keepNow", "()V"⟩
abbrev cX12_bringNow : ByteArray := prog_14_method_125_code
def yX12_bringNow : MethodName := ⟨RX12, "bringNow", "()V"⟩
abbrev cX12_lengths : ByteArray := prog_14_method_126_code
def yX12_lengths : MethodName := ⟨RX12, "lengths", "(Z)I"⟩
abbrev cX12_beside : ByteArray := prog_14_method_127_code
def yX12_beside : MethodName := ⟨RX12, "beside", "(III)I"⟩
abbrev cX12_besideOrder : ByteArray := prog_14_method_128_code
def yX12_besideOrder : MethodName := ⟨RX12, "besideOrder", "(I)I"⟩
abbrev cX12_besidePress : ByteArray := prog_14_method_129_code
def yX12_besidePress : MethodName := ⟨RX12, "besidePress", "(III)I"⟩
abbrev cX12_why : ByteArray := prog_14_method_130_code
def yX12_why : MethodName := ⟨RX12, "why", "(I)I"⟩
abbrev cX12_wasThere : ByteArray := prog_14_method_131_code
def yX12_wasThere : MethodName := ⟨RX12, "wasThere", "(II)Z"⟩
abbrev cX12_steady : ByteArray := prog_14_method_132_code
def yX12_steady : MethodName := ⟨RX12, "steady", "()Z"⟩
abbrev cX12_room : ByteArray := prog_14_method_133_code
def yX12_room : MethodName := ⟨RX12, "room", "(III)I"⟩
abbrev cX12_panel : ByteArray := prog_14_method_134_code
def yX12_panel : MethodName := ⟨RX12, "panel", "(IIII)I"⟩
abbrev cX12_unwire : ByteArray := prog_14_method_135_code
def yX12_unwire : MethodName := ⟨RX12, "unwire", "(I)Z"⟩
abbrev cX12_count : ByteArray := prog_14_method_136_code
def yX12_count : MethodName := ⟨RX12, "count", "(I)I"⟩
def RJx145de : String := "java/io/Serializable"
def TJx145de : u_T := fun k => match k with
  | _ => ("", "", "", false)
def tyJx145de : Nat → FieldType := fun k => match k with
  | _ => .int
theorem nmJx145de : ∀ a, a < 0 → ∀ b, b < 0 → a ≠ b → (TJx145de a).2.1 ≠ (TJx145de b).2.1 := by decide +kernel
theorem tyJx145de_ok : ∀ k, k < 0 → parseFieldDescriptor (TJx145de k).2.2.1 = some (tyJx145de k) := by decide +kernel
def RJxb160c : String := "java/lang/Comparable"
def TJxb160c : u_T := fun k => match k with
  | _ => ("", "", "", false)
def tyJxb160c : Nat → FieldType := fun k => match k with
  | _ => .int
theorem nmJxb160c : ∀ a, a < 0 → ∀ b, b < 0 → a ≠ b → (TJxb160c a).2.1 ≠ (TJxb160c b).2.1 := by decide +kernel
theorem tyJxb160c_ok : ∀ k, k < 0 → parseFieldDescriptor (TJxb160c k).2.2.1 = some (tyJxb160c k) := by decide +kernel
def RJ6 : String := "java/lang/Integer"
def TJ6 : u_T := fun k => match k with
  | _ => ("", "", "", false)
def tyJ6 : Nat → FieldType := fun k => match k with
  | _ => .int
theorem nmJ6 : ∀ a, a < 0 → ∀ b, b < 0 → a ≠ b → (TJ6 a).2.1 ≠ (TJ6 b).2.1 := by decide +kernel
theorem tyJ6_ok : ∀ k, k < 0 → parseFieldDescriptor (TJ6 k).2.2.1 = some (tyJ6 k) := by decide +kernel
abbrev cJ6_numberOfTrailingZeros_0f7a4 : ByteArray := prog_18_method_48_code
def yJ6_numberOfTrailingZeros_0f7a4 : MethodName := ⟨RJ6, "numberOfTrailingZeros", "(I)I"⟩
abbrev cJ6_bitCount_0f7a4 : ByteArray := prog_18_method_49_code
def yJ6_bitCount_0f7a4 : MethodName := ⟨RJ6, "bitCount", "(I)I"⟩
abbrev cJ6_reverse_0f7a4 : ByteArray := prog_18_method_52_code
def yJ6_reverse_0f7a4 : MethodName := ⟨RJ6, "reverse", "(I)I"⟩
abbrev cJ6_reverseBytes_0f7a4 : ByteArray := prog_18_method_57_code
def yJ6_reverseBytes_0f7a4 : MethodName := ⟨RJ6, "reverseBytes", "(I)I"⟩
def RJ9 : String := "java/lang/Math"
def TJ9 : u_T := fun k => match k with
  | _ => ("", "", "", false)
def tyJ9 : Nat → FieldType := fun k => match k with
  | _ => .int
theorem nmJ9 : ∀ a, a < 0 → ∀ b, b < 0 → a ≠ b → (TJ9 a).2.1 ≠ (TJ9 b).2.1 := by decide +kernel
theorem tyJ9_ok : ∀ k, k < 0 → parseFieldDescriptor (TJ9 k).2.2.1 = some (tyJ9 k) := by decide +kernel
abbrev cJ9_abs_0f7a4 : ByteArray := prog_19_method_59_code
def yJ9_abs_0f7a4 : MethodName := ⟨RJ9, "abs", "(I)I"⟩
abbrev cJ9_max_7cf53 : ByteArray := prog_19_method_65_code
def yJ9_max_7cf53 : MethodName := ⟨RJ9, "max", "(II)I"⟩
abbrev cJ9_min_7cf53 : ByteArray := prog_19_method_69_code
def yJ9_min_7cf53 : MethodName := ⟨RJ9, "min", "(II)I"⟩
def RJxd2413 : String := "java/lang/Number"
def TJxd2413 : u_T := fun k => match k with
  | _ => ("", "", "", false)
def tyJxd2413 : Nat → FieldType := fun k => match k with
  | _ => .int
theorem nmJxd2413 : ∀ a, a < 0 → ∀ b, b < 0 → a ≠ b → (TJxd2413 a).2.1 ≠ (TJxd2413 b).2.1 := by decide +kernel
theorem tyJxd2413_ok : ∀ k, k < 0 → parseFieldDescriptor (TJxd2413 k).2.2.1 = some (tyJxd2413 k) := by decide +kernel
def RJ0 : String := "java/lang/String"
def TJ0 : u_T := fun k => match k with
  | _ => ("", "", "", false)
def tyJ0 : Nat → FieldType := fun k => match k with
  | _ => .int
theorem nmJ0 : ∀ a, a < 0 → ∀ b, b < 0 → a ≠ b → (TJ0 a).2.1 ≠ (TJ0 b).2.1 := by decide +kernel
theorem tyJ0_ok : ∀ k, k < 0 → parseFieldDescriptor (TJ0 k).2.2.1 = some (tyJ0 k) := by decide +kernel
def RJ10 : String := "java/lang/System"
def TJ10 : u_T := fun k => match k with
  | _ => ("", "", "", false)
def tyJ10 : Nat → FieldType := fun k => match k with
  | _ => .int
theorem nmJ10 : ∀ a, a < 0 → ∀ b, b < 0 → a ≠ b → (TJ10 a).2.1 ≠ (TJ10 b).2.1 := by decide +kernel
theorem tyJ10_ok : ∀ k, k < 0 → parseFieldDescriptor (TJ10 k).2.2.1 = some (tyJ10 k) := by decide +kernel
def RJxfd54e : String := "java/lang/constant/Constable"
def TJxfd54e : u_T := fun k => match k with
  | _ => ("", "", "", false)
def tyJxfd54e : Nat → FieldType := fun k => match k with
  | _ => .int
theorem nmJxfd54e : ∀ a, a < 0 → ∀ b, b < 0 → a ≠ b → (TJxfd54e a).2.1 ≠ (TJxfd54e b).2.1 := by decide +kernel
theorem tyJxfd54e_ok : ∀ k, k < 0 → parseFieldDescriptor (TJxfd54e k).2.2.1 = some (tyJxfd54e k) := by decide +kernel
def RJx3cf43 : String := "java/lang/constant/ConstantDesc"
def TJx3cf43 : u_T := fun k => match k with
  | _ => ("", "", "", false)
def tyJx3cf43 : Nat → FieldType := fun k => match k with
  | _ => .int
theorem nmJx3cf43 : ∀ a, a < 0 → ∀ b, b < 0 → a ≠ b → (TJx3cf43 a).2.1 ≠ (TJx3cf43 b).2.1 := by decide +kernel
theorem tyJx3cf43_ok : ∀ k, k < 0 → parseFieldDescriptor (TJx3cf43 k).2.2.1 = some (tyJx3cf43 k) := by decide +kernel
def RJ7 : String := "java/util/Arrays"
def TJ7 : u_T := fun k => match k with
  | _ => ("", "", "", false)
def tyJ7 : Nat → FieldType := fun k => match k with
  | _ => .int
theorem nmJ7 : ∀ a, a < 0 → ∀ b, b < 0 → a ≠ b → (TJ7 a).2.1 ≠ (TJ7 b).2.1 := by decide +kernel
theorem tyJ7_ok : ∀ k, k < 0 → parseFieldDescriptor (TJ7 k).2.2.1 = some (tyJ7 k) := by decide +kernel
abbrev cJ7_rangeCheck_23922 : ByteArray := prog_27_method_30_code
def yJ7_rangeCheck_23922 : MethodName := ⟨RJ7, "rangeCheck", "(III)V"⟩
abbrev cJ7_fill_53178 : ByteArray := prog_27_method_103_code
def yJ7_fill_53178 : MethodName := ⟨RJ7, "fill", "([II)V"⟩
abbrev cJ7_fill_fda19 : ByteArray := prog_27_method_104_code
def yJ7_fill_fda19 : MethodName := ⟨RJ7, "fill", "([IIII)V"⟩
def RL : String := "CopperBoardLaw"
abbrev cL_cell : ByteArray := method_2_code
def yL_cell : MethodName := ⟨RL, "cell", "([II)I"⟩
abbrev cL_told : ByteArray := method_3_code
def yL_told : MethodName := ⟨RL, "told", "(LCopperBoard;II[J)I"⟩
abbrev cL_law : ByteArray := code
def yL_law : MethodName := ⟨RL, "law", "([I)Z"⟩
end
section
/-! whole numbers as the machine has them -/
abbrev inR (x : Int) : Prop := -2147483648 ≤ x ∧ x ≤ 2147483647
def w32 (x : Int) : Int := (x + 2147483648) % 4294967296 - 2147483648
theorem k_toInt (x : Int) : (Int32.ofInt x).toInt = w32 x := by
  rw [Int32.toInt_ofInt]
  unfold w32
  simp only [Int32.size, Int.bmod]
  split <;> omega
theorem w32_in (x : Int) : inR (w32 x) := by unfold w32; constructor <;> omega
theorem w32_id {x : Int} (h : inR x) : w32 x = x := by unfold w32; obtain ⟨h1, h2⟩ := h; omega
theorem k_toInt_in {x : Int} (h : inR x) : (Int32.ofInt x).toInt = x := by rw [k_toInt, w32_id h]
theorem k_ofInt_w (x : Int) : Int32.ofInt (w32 x) = Int32.ofInt x := by
  apply Int32.toInt_inj.mp
  rw [k_toInt, k_toInt, w32_id (w32_in x)]
theorem k_in_toInt (z : Int32) : inR z.toInt := by
  have h1 := Int32.le_toInt z
  have h2 := Int32.toInt_lt z
  constructor <;> omega
theorem k_ofInt_toInt (z : Int32) : Int32.ofInt z.toInt = z := Int32.ofInt_toInt z
theorem k_lt {x y : Int} (hx : inR x) (hy : inR y) : Int32.ofInt x < Int32.ofInt y ↔ x < y := by
  rw [Int32.lt_iff_toInt_lt, k_toInt_in hx, k_toInt_in hy]
theorem k_le {x y : Int} (hx : inR x) (hy : inR y) : Int32.ofInt x ≤ Int32.ofInt y ↔ x ≤ y := by
  rw [Int32.le_iff_toInt_le, k_toInt_in hx, k_toInt_in hy]
theorem k_eq {x y : Int} (hx : inR x) (hy : inR y) : Int32.ofInt x = Int32.ofInt y ↔ x = y := by
  constructor
  · intro h
    have := congrArg Int32.toInt h
    rwa [k_toInt_in hx, k_toInt_in hy] at this
  · intro h; rw [h]
theorem k_zero : Int32.ofInt 0 = 0 := by decide
theorem k_inR0 : inR 0 := by constructor <;> omega
def kand (x y : Int) : Int := (Int32.ofInt x &&& Int32.ofInt y).toInt
def kor (x y : Int) : Int := (Int32.ofInt x ||| Int32.ofInt y).toInt
def kxor (x y : Int) : Int := (Int32.ofInt x ^^^ Int32.ofInt y).toInt
def kshl (x y : Int) : Int := (Int32.ofInt x <<< (Int32.ofInt y &&& 31)).toInt
def kshr (x y : Int) : Int := (Int32.ofInt x >>> (Int32.ofInt y &&& 31)).toInt
def kushr (x y : Int) : Int := ((Int32.ofInt x).toUInt32 >>> ((Int32.ofInt y).toUInt32 &&& Int32.toUInt32 31)).toInt32.toInt
theorem k_clamp {x : Int} (h : inR x) : (Int32.ofInt x).toNatClampNeg = x.toNat := by
  show (Int32.ofInt x).toInt.toNat = x.toNat
  rw [k_toInt_in h]
theorem k_vpin {x : Int} {n : Nat} (hx : inR x) (h0 : 0 ≤ x) (h1 : x < n) : vp_in (Int32.ofInt x) n := by
  rw [vp_in_iff, k_toInt_in hx]; exact ⟨h0, h1⟩
theorem k_ofNat (n : Nat) : Int32.ofNat n = Int32.ofInt (n : Int) := by
  rfl
theorem k_div {x y : Int} (hx : inR x) (hy : inR y) : Int32.ofInt x / Int32.ofInt y = Int32.ofInt (x.tdiv y) := by
  apply Int32.toInt_inj.mp
  rw [Int32.toInt_div, k_toInt_in hx, k_toInt_in hy, Int32.toInt_ofInt]
theorem k_rem {x y : Int} (hx : inR x) (hy : inR y) : Int32.ofInt x - Int32.ofInt x / Int32.ofInt y * Int32.ofInt y = Int32.ofInt (x.tmod y) := by
  rw [k_div hx hy, ← Int32.ofInt_mul, ← Int32.ofInt_sub]
  congr 1
  have := Int.mul_tdiv_add_tmod x y
  rw [Int.mul_comm] at this
  omega
theorem k_tmod_in {x y : Int} (hx : inR x) (hy : inR y) (h0 : y ≠ 0) : inR (x.tmod y) := by
  rw [Int.tmod_eq_emod]
  obtain ⟨a, b⟩ := hx
  obtain ⟨c, d⟩ := hy
  have h1 := Int.emod_nonneg x h0
  have h2 := Int.emod_lt x h0
  split <;> constructor <;> omega
theorem k_ofInt_neg (x : Int) : -Int32.ofInt x = Int32.ofInt (-x) := by
  rw [← Int32.ofInt_neg]
end
section
/-! the machine over numbered objects: values, memory, code as data, what must hold for a run to end well -/
abbrev AV : Type := Int ⊕ (Nat ⊕ Int)
abbrev vI (x : Int) : AV := Sum.inl x
abbrev vR (o : Nat) : AV := Sum.inr (Sum.inl o)
abbrev vL (x : Int) : AV := Sum.inr (Sum.inr x)
abbrev Mem : Type := Nat → Nat → Int
abbrev Ob : Type := (Nat × List (Option Nat)) ⊕ (Nat × Nat)
abbrev Gr : Type := List Ob
abbrev Ro : Type := List (Nat × Nat × (Nat → Int))
abbrev AI : Type := Instr × Nat × List Nat
abbrev KL : Type := List (Option AV)
abbrev CB : Type := List (Nat × List AI)
def mset (m : Mem) (o i : Nat) (v : Int) : Mem := fun p => if p = o then (fun j => if j = i then v else m o j) else m p
def mcpy (m : Mem) (src sp dst dp n : Nat) : Mem := fun p => if p = dst then (fun j => if dp ≤ j ∧ j < dp + n then m src (sp + (j - dp)) else m dst j) else m p
def k_get : KL → Nat → (AV → Prop) → Prop
  | some v :: _, 0, K => K v
  | _ :: l, n + 1, K => k_get l n K
  | _, _, _ => False
def k_set : KL → Nat → AV → (KL → Prop) → Prop
  | _ :: l, 0, v, K => K (some v :: l)
  | a :: l, n + 1, v, K => k_set l n v (fun l' => K (a :: l'))
  | [], _, _, _ => False
def k_pop : Nat → List AV → List AV → (List AV → List AV → Prop) → Prop
  | 0, S, acc, K => K acc S
  | n + 1, v :: S, acc, K => k_pop n S (v :: acc) K
  | _ + 1, [], _, _ => False
def k_1 : List Nat → (Nat → Prop) → Prop
  | a :: _, K => K a
  | [], _ => False
def k_2 : List Nat → (Nat → Nat → Prop) → Prop
  | a :: b :: _, K => K a b
  | _, _ => False
def k_3 : List Nat → (Nat → Nat → Nat → Prop) → Prop
  | a :: b :: c :: _, K => K a b c
  | _, _ => False
def k_int : AV → (Int → Prop) → Prop
  | .inl a, K => K a
  | _, _ => False
def k_ref : AV → (Nat → Prop) → Prop
  | .inr (.inl a), K => K a
  | _, _ => False
def k_un : List AV → (Int → List AV → Prop) → Prop
  | .inl a :: S, K => K a S
  | _, _ => False
def k_bin : List AV → (Int → Int → List AV → Prop) → Prop
  | .inl b :: .inl a :: S, K => K a b S
  | _, _ => False
def k_ob : List AV → (Nat → List AV → Prop) → Prop
  | .inr (.inl o) :: S, K => K o S
  | _, _ => False
def k_if (b : Bool) (P : Prop) : Prop := match b with
  | true => P
  | false => False
def k_obj (G : Gr) (o ci : Nat) (K : List (Option Nat) → Prop) : Prop := match G[o]? with
  | some (.inl (c, rs)) => k_if (Nat.beq c ci) (K rs)
  | _ => False
def k_wr (G : Gr) (o ty : Nat) (K : Nat → Prop) : Prop := match G[o]? with
  | some (.inr (t, n)) => k_if (Nat.beq t ty) (K n)
  | _ => False
def k_rd (G : Gr) (RO : Ro) (m : Mem) (o ty : Nat) (K : Nat → (Nat → Int) → Prop) : Prop := match Nat.blt o 1000 with
  | true => k_wr G o ty (fun n => K n (m o))
  | false => match RO[o - 1000]? with
    | some (t, n, f) => k_if (Nat.beq t ty) (K n f)
    | none => False
def k_len (G : Gr) (RO : Ro) (o : Nat) (K : Nat → Prop) : Prop := match Nat.blt o 1000 with
  | true => match G[o]? with
    | some (.inr (_, n)) => K n
    | _ => False
  | false => match RO[o - 1000]? with
    | some (_, n, _) => K n
    | none => False
def k_br (c : ClassFile.Cond) (a b : Int) (X Y : Prop) : Prop := match c with
  | .eq => (a = b → X) ∧ (¬ a = b → Y)
  | .ne => (¬ a = b → X) ∧ (a = b → Y)
  | .lt => (a < b → X) ∧ (b ≤ a → Y)
  | .ge => (b ≤ a → X) ∧ (a < b → Y)
  | .gt => (b < a → X) ∧ (a ≤ b → Y)
  | .le => (a ≤ b → X) ∧ (b < a → Y)
def k_cases (v : Int) : Int → List Nat → (Nat → Prop) → Prop
  | _, [], _ => True
  | lo, b :: bs, K => (v = lo → K b) ∧ k_cases v (lo + 1) bs K
def k_cat : AV → Nat
  | .inl _ => 1
  | .inr (.inl _) => 1
  | .inr (.inr _) => 2
def k_push : Option AV → List AV → List AV
  | some v, S => v :: S
  | none, S => S
def k_ar (x : List Nat) (z : Int) (K : Int → Prop) : Prop := match x with
  | [] => inR z ∧ K z
  | _ => K (w32 z)
section KE
variable (G : Gr) (RO : Ro) (J : Nat → KL → List AV → Mem → Prop) (C : Nat → List AV → Mem → (Option AV → Mem → Prop) → Prop) (T : Option AV → Mem → Prop)
def k_call (x : List Nat) (S : List AV) (m : Mem) (K : List AV → Mem → Prop) : Prop :=
  k_2 x (fun n na => k_pop na S [] (fun as S => k_if (Nat.ble (S.map k_cat).sum 8) (C n as m (fun r m' => K (k_push r S) m'))))
def k_exec : List AI → KL → List AV → Mem → Prop
  | [], _, _, _ => False
  | (i, _, x) :: r, L, S, m =>
    match i with
    | .nop => k_1 x (fun b => J b L S m)
    | .iconst n => k_exec r L (vI n :: S) m
    | .bipush n => k_exec r L (vI n :: S) m
    | .sipush n => k_exec r L (vI n :: S) m
    | .ldc _ => k_1 x (fun v => k_exec r L (vI (v : Int) :: S) m)
    | .ldc_w _ => k_1 x (fun v => k_exec r L (vI (v : Int) :: S) m)
    | .iload_n k => k_get L k.val (fun v => k_int v (fun a => k_exec r L (vI a :: S) m))
    | .iload k => k_get L k (fun v => k_int v (fun a => k_exec r L (vI a :: S) m))
    | .aload_n k => k_get L k.val (fun v => k_ref v (fun a => k_exec r L (vR a :: S) m))
    | .aload k => k_get L k (fun v => k_ref v (fun a => k_exec r L (vR a :: S) m))
    | .istore_n k => k_un S (fun a S => k_set L k.val (vI a) (fun L => k_exec r L S m))
    | .istore k => k_un S (fun a S => k_set L k (vI a) (fun L => k_exec r L S m))
    | .astore_n k => k_ob S (fun a S => k_set L k.val (vR a) (fun L => k_exec r L S m))
    | .astore k => k_ob S (fun a S => k_set L k (vR a) (fun L => k_exec r L S m))
    | .iinc k n => k_get L k (fun v => k_int v (fun a => inR (a + n) ∧ k_set L k (vI (a + n)) (fun L => k_exec r L S m)))
    | .iadd => k_bin S (fun a b S => k_ar x (a + b) (fun z => k_exec r L (vI z :: S) m))
    | .isub => k_bin S (fun a b S => k_ar x (a - b) (fun z => k_exec r L (vI z :: S) m))
    | .imul => k_bin S (fun a b S => k_ar x (a * b) (fun z => k_exec r L (vI z :: S) m))
    | .ineg => k_un S (fun a S => k_ar x (-a) (fun z => k_exec r L (vI z :: S) m))
    | .idiv => k_bin S (fun a b S => ¬ b = 0 ∧ inR (a.tdiv b) ∧ k_exec r L (vI (a.tdiv b) :: S) m)
    | .irem => k_bin S (fun a b S => ¬ b = 0 ∧ k_exec r L (vI (a.tmod b) :: S) m)
    | .iand => k_bin S (fun a b S => k_exec r L (vI (kand a b) :: S) m)
    | .ior => k_bin S (fun a b S => k_exec r L (vI (kor a b) :: S) m)
    | .ixor => k_bin S (fun a b S => k_exec r L (vI (kxor a b) :: S) m)
    | .ishl => k_bin S (fun a b S => k_exec r L (vI (kshl a b) :: S) m)
    | .ishr => k_bin S (fun a b S => k_exec r L (vI (kshr a b) :: S) m)
    | .iushr => k_bin S (fun a b S => k_exec r L (vI (kushr a b) :: S) m)
    | .dup => match S with
      | .inl a :: S => k_exec r L (vI a :: vI a :: S) m
      | .inr (.inl a) :: S => k_exec r L (vR a :: vR a :: S) m
      | _ => False
    | .dup2 => match S with
      | .inl b :: .inr (.inl a) :: S => k_exec r L (vI b :: vR a :: vI b :: vR a :: S) m
      | _ => False
    | .pop => match S with
      | .inl _ :: S => k_exec r L S m
      | .inr (.inl _) :: S => k_exec r L S m
      | _ => False
    | .getfield _ => k_ob S (fun o S => k_3 x (fun ci k t => k_obj G o ci (fun rs => match t with
      | 1 => match rs[k]? with
        | some (some q) => k_exec r L (vR q :: S) m
        | _ => False
      | _ => k_exec r L (vI (m o k) :: S) m)))
    | .putfield _ => k_un S (fun v S => k_ob S (fun o S => k_3 x (fun ci k t => k_obj G o ci (fun _ => match t with
      | 0 => k_exec r L S (mset m o k v)
      | 2 => (v = 0 ∨ v = 1) ∧ k_exec r L S (mset m o k v)
      | _ => False))))
    | .getstatic _ => k_1 x (fun j => k_exec r L (vR (1000 + j) :: S) m)
    | .iaload => k_un S (fun i S => k_ob S (fun o S => k_rd G RO m o 0 (fun n f => (0 ≤ i ∧ i < (n : Int)) ∧ k_exec r L (vI (f i.toNat) :: S) m)))
    | .baload => k_un S (fun i S => k_ob S (fun o S => k_rd G RO m o 1 (fun n f => (0 ≤ i ∧ i < (n : Int)) ∧ k_exec r L (vI (f i.toNat) :: S) m)))
    | .caload => k_un S (fun i S => k_ob S (fun o S => k_rd G RO m o 3 (fun n f => (0 ≤ i ∧ i < (n : Int)) ∧ k_exec r L (vI (f i.toNat) :: S) m)))
    | .iastore => k_bin S (fun i v S => k_ob S (fun o S => k_wr G o 0 (fun n => (0 ≤ i ∧ i < (n : Int)) ∧ k_exec r L S (mset m o i.toNat v))))
    | .bastore => k_bin S (fun i v S => k_ob S (fun o S => k_wr G o 1 (fun n => (0 ≤ i ∧ i < (n : Int)) ∧ (v = 0 ∨ v = 1) ∧ k_exec r L S (mset m o i.toNat v))))
    | .arraylength => k_ob S (fun o S => k_len G RO o (fun n => k_exec r L (vI (n : Int) :: S) m))
    | .goto _ => k_1 x (fun b => J b L S m)
    | .ifCond c _ => k_1 x (fun b => k_un S (fun a S => k_br c a 0 (J b L S m) (k_exec r L S m)))
    | .if_icmp c _ => k_1 x (fun b => k_bin S (fun a z S => k_br c a z (J b L S m) (k_exec r L S m)))
    | .tableswitch _ lo hi _ => match x with
      | b :: bs => k_un S (fun v S => (v < lo ∨ hi < v → J b L S m) ∧ k_cases v lo bs (fun b => J b L S m))
      | [] => False
    | .invokevirtual _ => k_call C x S m (fun S m => k_exec r L S m)
    | .invokestatic _ => match x with
      | [] => match S with
        | .inl n :: .inl dp :: .inr (.inl d) :: .inl sp :: .inr (.inl a) :: S => k_wr G a 0 (fun na => k_wr G d 0 (fun nd => ((0 ≤ n ∧ 0 ≤ dp ∧ 0 ≤ sp) ∧ sp + n ≤ (na : Int) ∧ dp + n ≤ (nd : Int)) ∧ k_if (Nat.ble (S.map k_cat).sum 8) (k_exec r L S (mcpy m a sp.toNat d dp.toNat n.toNat))))
        | _ => False
      | _ => k_call C x S m (fun S m => k_exec r L S m)
    | .ireturn => k_un S (fun a S => match S with
      | [] => T (some (vI a)) m
      | _ => False)
    | .return_ => match S with
      | [] => T none m
      | _ => False
    | _ => False
def k_mem : Nat → List Nat → Bool
  | _, [] => false
  | a, b :: l => match Nat.beq a b with
    | true => true
    | false => k_mem a l
def k_blk (P : CB) (cuts : List Nat) (A : Nat → KL → List AV → Mem → Prop) : Nat → Nat → KL → List AV → Mem → Prop
  | 0, _, _, _, _ => False
  | f + 1, b, L, S, m => match k_mem b cuts with
    | true => A b L S m
    | false => match P[b]? with
      | some q => k_exec G RO (k_blk P cuts A f) C T q.2 L S m
      | none => False
def k_go (P : CB) (cuts : List Nat) (A : Nat → KL → List AV → Mem → Prop) (f b : Nat) (L : KL) (S : List AV) (m : Mem) : Prop := match P[b]? with
  | some q => k_exec G RO (k_blk G RO C T P cuts A f) C T q.2 L S m
  | none => False
end KE
end
