/-! code as data (written by wip/whole/gencode.py) -/
def P_X8_readSetting : CB := [(0, [(.aload_n 0, 1, []), (.invokevirtual 38, 3, [108, 1, 8]), (.aload_n 0, 1, []), (.invokevirtual 41, 3, [106, 1, 8]), (.istore_n 1, 1, []), (.iload_n 1, 1, []), (.iconst (-1), 1, []), (.if_icmp .eq 14, 3, [1]), (.aload_n 0, 1, []), (.getfield 28, 3, [8, 5, 0]), (.iload_n 1, 1, []), (.ishr, 1, []), (.iconst 1, 1, []), (.iand, 1, []), (.ifCond .eq 5, 3, [2]), (.nop, 0, [1])]),
  (25, [(.iconst 0, 1, []), (.ireturn, 1, [])]),
  (27, [(.aload_n 0, 1, []), (.dup, 1, []), (.getfield 28, 3, [8, 5, 0]), (.iconst 1, 1, []), (.iload_n 1, 1, []), (.ishl, 1, []), (.ior, 1, []), (.putfield 28, 3, [8, 5, 0]), (.aload_n 0, 1, []), (.dup, 1, []), (.getfield 25, 3, [8, 4, 0]), (.iconst 1, 1, []), (.iadd, 1, []), (.putfield 25, 3, [8, 4, 0]), (.aload_n 0, 1, []), (.invokevirtual 38, 3, [108, 1, 8]), (.iload_n 1, 1, []), (.iconst 4, 1, []), (.if_icmp .ne 10, 3, [3]), (.aload_n 0, 1, []), (.invokevirtual 45, 3, [110, 1, 8]), (.goto 8, 3, [4])]),
  (65, [(.aload_n 0, 1, []), (.iload_n 1, 1, []), (.invokevirtual 48, 3, [109, 2, 8]), (.nop, 0, [4])]),
  (70, [(.ireturn, 1, [])])]
abbrev M_X8_readSetting : Md := (105, 8, 2, (some .boolean), P_X8_readSetting)
theorem ok_X8_readSetting : k_okM M_X8_readSetting := by unfold k_okM; decide +kernel
def P_X8_kindHere : CB := [(0, [(.aload_n 0, 1, []), (.getfield 25, 3, [8, 4, 0]), (.aload_n 0, 1, []), (.getfield 22, 3, [8, 3, 0]), (.if_icmp .ge 35, 3, [3]), (.iconst 0, 1, []), (.istore_n 1, 1, []), (.nop, 0, [1])]),
  (13, [(.iload_n 1, 1, []), (.iconst 5, 1, []), (.if_icmp .ge 28, 3, [3]), (.aload_n 0, 1, []), (.getfield 9, 3, [8, 1, 1]), (.aload_n 0, 1, []), (.getfield 25, 3, [8, 4, 0]), (.iaload, 1, []), (.getstatic 52, 3, [1]), (.iload_n 1, 1, []), (.caload, 1, []), (.if_icmp .ne 5, 3, [2]), (.iload_n 1, 1, []), (.ireturn, 1, [])]),
  (37, [(.iinc 1 1, 3, []), (.goto (-27), 3, [1])]),
  (43, [(.iconst (-1), 1, []), (.ireturn, 1, [])])]
abbrev M_X8_kindHere : Md := (106, 8, 2, (some .int), P_X8_kindHere)
theorem ok_X8_kindHere : k_okM M_X8_kindHere := by unfold k_okM; decide +kernel
def P_X8_digitHere : CB := [(0, [(.aload_n 0, 1, []), (.getfield 25, 3, [8, 4, 0]), (.aload_n 0, 1, []), (.getfield 22, 3, [8, 3, 0]), (.if_icmp .ge 31, 3, [1]), (.aload_n 0, 1, []), (.getfield 9, 3, [8, 1, 1]), (.aload_n 0, 1, []), (.getfield 25, 3, [8, 4, 0]), (.iaload, 1, []), (.bipush 48, 2, []), (.if_icmp .lt 17, 3, [1]), (.aload_n 0, 1, []), (.getfield 9, 3, [8, 1, 1]), (.aload_n 0, 1, []), (.getfield 25, 3, [8, 4, 0]), (.iaload, 1, []), (.bipush 57, 2, []), (.if_icmp .le 5, 3, [2]), (.nop, 0, [1])]),
  (39, [(.iconst (-1), 1, []), (.ireturn, 1, [])]),
  (41, [(.aload_n 0, 1, []), (.getfield 9, 3, [8, 1, 1]), (.aload_n 0, 1, []), (.getfield 25, 3, [8, 4, 0]), (.iaload, 1, []), (.bipush 48, 2, []), (.isub, 1, []), (.ireturn, 1, [])])]
abbrev M_X8_digitHere : Md := (107, 8, 1, (some .int), P_X8_digitHere)
theorem ok_X8_digitHere : k_okM M_X8_digitHere := by unfold k_okM; decide +kernel
def P_X8_skipBlanks : CB := [(0, [(.aload_n 0, 1, []), (.getfield 25, 3, [8, 4, 0]), (.aload_n 0, 1, []), (.getfield 22, 3, [8, 3, 0]), (.if_icmp .ge 30, 3, [1]), (.aload_n 0, 1, []), (.getfield 9, 3, [8, 1, 1]), (.aload_n 0, 1, []), (.getfield 25, 3, [8, 4, 0]), (.iaload, 1, []), (.bipush 32, 2, []), (.if_icmp .ne 16, 3, [1]), (.aload_n 0, 1, []), (.dup, 1, []), (.getfield 25, 3, [8, 4, 0]), (.iconst 1, 1, []), (.iadd, 1, []), (.putfield 25, 3, [8, 4, 0]), (.goto (-35), 3, [0])]),
  (38, [(.return_, 1, [])])]
abbrev M_X8_skipBlanks : Md := (108, 8, 1, none, P_X8_skipBlanks)
theorem ok_X8_skipBlanks : k_okM M_X8_skipBlanks := by unfold k_okM; decide +kernel
def P_X8_readNumber : CB := [(0, [(.aload_n 0, 1, []), (.invokevirtual 56, 3, [107, 1, 8]), (.istore_n 2, 1, []), (.iload_n 2, 1, []), (.iconst (-1), 1, []), (.if_icmp .ne 5, 3, [1]), (.iconst 0, 1, []), (.ireturn, 1, [])]),
  (12, [(.aload_n 0, 1, []), (.dup, 1, []), (.getfield 25, 3, [8, 4, 0]), (.iconst 1, 1, []), (.iadd, 1, []), (.putfield 25, 3, [8, 4, 0]), (.aload_n 0, 1, []), (.invokevirtual 56, 3, [107, 1, 8]), (.istore_n 3, 1, []), (.iload_n 3, 1, []), (.iconst (-1), 1, []), (.if_icmp .eq 20, 3, [2]), (.iload_n 2, 1, []), (.bipush 10, 2, []), (.imul, 1, []), (.iload_n 3, 1, []), (.iadd, 1, []), (.istore_n 2, 1, []), (.aload_n 0, 1, []), (.dup, 1, []), (.getfield 25, 3, [8, 4, 0]), (.iconst 1, 1, []), (.iadd, 1, []), (.putfield 25, 3, [8, 4, 0]), (.nop, 0, [2])]),
  (49, [(.iload_n 2, 1, []), (.getstatic 59, 3, [2]), (.iload_n 1, 1, []), (.iaload, 1, []), (.if_icmp .lt 12, 3, [3]), (.iload_n 2, 1, []), (.getstatic 62, 3, [3]), (.iload_n 1, 1, []), (.iaload, 1, []), (.if_icmp .le 15, 3, [4]), (.nop, 0, [3])]),
  (67, [(.aload_n 0, 1, []), (.dup, 1, []), (.getfield 25, 3, [8, 4, 0]), (.iconst 1, 1, []), (.isub, 1, []), (.putfield 25, 3, [8, 4, 0]), (.iconst 0, 1, []), (.ireturn, 1, [])]),
  (79, [(.aload_n 0, 1, []), (.getfield 15, 3, [8, 2, 1]), (.iload_n 1, 1, []), (.iload_n 2, 1, []), (.iastore, 1, []), (.iload_n 3, 1, []), (.iconst (-1), 1, []), (.if_icmp .eq 11, 3, [5]), (.aload_n 0, 1, []), (.invokevirtual 56, 3, [107, 1, 8]), (.iconst (-1), 1, []), (.if_icmp .ne 7, 3, [6]), (.nop, 0, [5])]),
  (99, [(.iconst 1, 1, []), (.goto 4, 3, [7])]),
  (103, [(.iconst 0, 1, []), (.nop, 0, [7])]),
  (104, [(.ireturn, 1, [])])]
abbrev M_X8_readNumber : Md := (109, 8, 4, (some .boolean), P_X8_readNumber)
theorem ok_X8_readNumber : k_okM M_X8_readNumber := by unfold k_okM; decide +kernel
def P_X8_readLayers : CB := [(0, [(.iconst 0, 1, []), (.istore_n 1, 1, []), (.iconst 0, 1, []), (.istore_n 2, 1, []), (.nop, 0, [1])]),
  (4, [(.iload_n 2, 1, []), (.bipush 80, 2, []), (.if_icmp .ge 60, 3, [5]), (.aload_n 0, 1, []), (.invokevirtual 56, 3, [107, 1, 8]), (.istore_n 3, 1, []), (.iload_n 3, 1, []), (.iconst (-1), 1, []), (.if_icmp .ne 6, 3, [2]), (.goto 47, 3, [5])]),
  (23, [(.iload_n 3, 1, []), (.aload_n 0, 1, []), (.getfield 18, 3, [8, 0, 0]), (.if_icmp .ge 11, 3, [3]), (.iload_n 1, 1, []), (.iload_n 3, 1, []), (.ishr, 1, []), (.iconst 1, 1, []), (.iand, 1, []), (.ifCond .eq 5, 3, [4]), (.nop, 0, [3])]),
  (39, [(.iconst 0, 1, []), (.ireturn, 1, [])]),
  (41, [(.iload_n 1, 1, []), (.iconst 1, 1, []), (.iload_n 3, 1, []), (.ishl, 1, []), (.ior, 1, []), (.istore_n 1, 1, []), (.aload_n 0, 1, []), (.dup, 1, []), (.getfield 25, 3, [8, 4, 0]), (.iconst 1, 1, []), (.iadd, 1, []), (.putfield 25, 3, [8, 4, 0]), (.aload_n 0, 1, []), (.invokevirtual 38, 3, [108, 1, 8]), (.iinc 2 1, 3, []), (.goto (-60), 3, [1])]),
  (67, [(.aload_n 0, 1, []), (.getfield 15, 3, [8, 2, 1]), (.iconst 4, 1, []), (.iload_n 1, 1, []), (.iastore, 1, []), (.iload_n 1, 1, []), (.ifCond .eq 7, 3, [6]), (.iconst 1, 1, []), (.goto 4, 3, [7])]),
  (82, [(.iconst 0, 1, []), (.nop, 0, [7])]),
  (83, [(.ireturn, 1, [])])]
abbrev M_X8_readLayers : Md := (110, 8, 4, (some .boolean), P_X8_readLayers)
theorem ok_X8_readLayers : k_okM M_X8_readLayers := by unfold k_okM; decide +kernel
def P_X9_canFollow : CB := [(0, [(.aload_n 0, 1, []), (.getfield 15, 3, [9, 1, 1]), (.getfield 35, 3, [3, 4, 1]), (.iload_n 1, 1, []), (.iaload, 1, []), (.iconst 2, 1, []), (.if_icmp .ne 29, 3, [1]), (.aload_n 0, 1, []), (.getfield 15, 3, [9, 1, 1]), (.iload_n 1, 1, []), (.invokevirtual 40, 3, [49, 2, 3]), (.ifCond .ne 18, 3, [1]), (.aload_n 0, 1, []), (.getfield 15, 3, [9, 1, 1]), (.iload_n 1, 1, []), (.invokevirtual 44, 3, [48, 2, 3]), (.ifCond .eq 7, 3, [1]), (.iconst 1, 1, []), (.goto 4, 3, [2])]),
  (39, [(.iconst 0, 1, []), (.nop, 0, [2])]),
  (40, [(.ireturn, 1, [])])]
abbrev M_X9_canFollow : Md := (112, 9, 2, (some .boolean), P_X9_canFollow)
theorem ok_X9_canFollow : k_okM M_X9_canFollow := by unfold k_okM; decide +kernel
def P_X9_follow : CB := [(0, [(.aload_n 0, 1, []), (.getfield 15, 3, [9, 1, 1]), (.iload_n 1, 1, []), (.iconst 1, 1, []), (.invokevirtual 47, 3, [36, 3, 3]), (.istore_n 2, 1, []), (.iconst 0, 1, []), (.istore_n 3, 1, []), (.aload_n 0, 1, []), (.iconst 0, 1, []), (.putfield 51, 3, [9, 5, 0]), (.aload_n 0, 1, []), (.getfield 29, 3, [9, 3, 1]), (.iconst 0, 1, []), (.iload_n 2, 1, []), (.iastore, 1, []), (.iconst 0, 1, []), (.istore 4, 2, []), (.nop, 0, [1])]),
  (27, [(.iload 4, 2, []), (.aload_n 0, 1, []), (.getfield 9, 3, [9, 0, 1]), (.getfield 23, 3, [2, 4, 0]), (.if_icmp .ge 143, 3, [6]), (.aload_n 0, 1, []), (.getfield 15, 3, [9, 1, 1]), (.getfield 54, 3, [3, 10, 1]), (.iload_n 1, 1, []), (.aload_n 0, 1, []), (.getfield 9, 3, [9, 0, 1]), (.getfield 23, 3, [2, 4, 0]), (.imul, 1, []), (.iload_n 2, 1, []), (.iadd, 1, []), (.iaload, 1, []), (.iload_n 3, 1, []), (.iconst (-1), 1, []), (.ixor, 1, []), (.iand, 1, []), (.istore 5, 2, []), (.iconst 0, 1, []), (.istore 6, 2, []), (.nop, 0, [2])]),
  (67, [(.iload 6, 2, []), (.bipush 6, 2, []), (.if_icmp .ge 19, 3, [3]), (.iload 5, 2, []), (.iload 6, 2, []), (.ishr, 1, []), (.iconst 1, 1, []), (.iand, 1, []), (.ifCond .ne 9, 3, [3]), (.iinc 6 1, 3, []), (.goto (-20), 3, [2])]),
  (90, [(.iload 6, 2, []), (.bipush 6, 2, []), (.if_icmp .ge 22, 3, [4]), (.aload_n 0, 1, []), (.getfield 9, 3, [9, 0, 1]), (.getfield 57, 3, [2, 5, 1]), (.iload_n 2, 1, []), (.bipush 6, 2, []), (.imul, 1, []), (.iload 6, 2, []), (.iadd, 1, []), (.iaload, 1, []), (.iconst (-1), 1, []), (.if_icmp .ne 4, 3, [5]), (.nop, 0, [4])]),
  (116, [(.return_, 1, [])]),
  (117, [(.aload_n 0, 1, []), (.getfield 32, 3, [9, 4, 1]), (.aload_n 0, 1, []), (.getfield 51, 3, [9, 5, 0]), (.iload 6, 2, []), (.iastore, 1, []), (.iconst 1, 1, []), (.getstatic 60, 3, [0]), (.iload 6, 2, []), (.iaload, 1, []), (.ishl, 1, []), (.istore_n 3, 1, []), (.aload_n 0, 1, []), (.getfield 9, 3, [9, 0, 1]), (.getfield 57, 3, [2, 5, 1]), (.iload_n 2, 1, []), (.bipush 6, 2, []), (.imul, 1, []), (.iload 6, 2, []), (.iadd, 1, []), (.iaload, 1, []), (.istore_n 2, 1, []), (.aload_n 0, 1, []), (.dup, 1, []), (.getfield 51, 3, [9, 5, 0]), (.iconst 1, 1, []), (.iadd, 1, []), (.putfield 51, 3, [9, 5, 0]), (.aload_n 0, 1, []), (.getfield 29, 3, [9, 3, 1]), (.aload_n 0, 1, []), (.getfield 51, 3, [9, 5, 0]), (.iload_n 2, 1, []), (.iastore, 1, []), (.iinc 4 1, 3, []), (.goto (-149), 3, [1])]),
  (179, [(.return_, 1, [])])]
abbrev M_X9_follow : Md := (113, 9, 7, none, P_X9_follow)
theorem ok_X9_follow : k_okM M_X9_follow := by unfold k_okM; decide +kernel
def P_X9_bendOut : CB := [(0, [(.aload_n 0, 1, []), (.getfield 19, 3, [9, 2, 1]), (.iload_n 1, 1, []), (.iconst 1, 1, []), (.invokevirtual 63, 3, [77, 3, 6]), (.aload_n 0, 1, []), (.getfield 19, 3, [9, 2, 1]), (.iconst 0, 1, []), (.invokevirtual 69, 3, [81, 2, 6]), (.aload_n 0, 1, []), (.iload_n 1, 1, []), (.invokevirtual 73, 3, [113, 2, 9]), (.aload_n 0, 1, []), (.getfield 15, 3, [9, 1, 1]), (.iload_n 1, 1, []), (.invokevirtual 76, 3, [54, 2, 3]), (.istore_n 3, 1, []), (.iconst 0, 1, []), (.istore 4, 2, []), (.nop, 0, [1])]),
  (34, [(.iload 4, 2, []), (.aload_n 0, 1, []), (.getfield 51, 3, [9, 5, 0]), (.if_icmp .ge 80, 3, [4]), (.aload_n 0, 1, []), (.getfield 32, 3, [9, 4, 1]), (.iload 4, 2, []), (.iaload, 1, []), (.istore 5, 2, []), (.iload 5, 2, []), (.iconst 4, 1, []), (.if_icmp .ge 59, 3, [3]), (.iload_n 3, 1, []), (.iconst 2, 1, []), (.iadd, 1, []), (.iload_n 2, 1, []), (.if_icmp .gt 52, 3, [3]), (.aload_n 0, 1, []), (.iload_n 1, 1, []), (.aload_n 0, 1, []), (.getfield 29, 3, [9, 3, 1]), (.iload 4, 2, []), (.iaload, 1, []), (.iload 5, 2, []), (.iload 5, 2, []), (.iconst 3, 1, []), (.iadd, 1, []), (.iconst 3, 1, []), (.iand, 1, []), (.invokevirtual 80, 3, [115, 5, 9]), (.ifCond .ne 26, 3, [2]), (.aload_n 0, 1, []), (.iload_n 1, 1, []), (.aload_n 0, 1, []), (.getfield 29, 3, [9, 3, 1]), (.iload 4, 2, []), (.iaload, 1, []), (.iload 5, 2, []), (.iload 5, 2, []), (.iconst 1, 1, []), (.iadd, 1, []), (.iconst 3, 1, []), (.iand, 1, []), (.invokevirtual 80, 3, [115, 5, 9]), (.ifCond .eq 6, 3, [3]), (.nop, 0, [2])]),
  (111, [(.iinc 3 2, 3, []), (.nop, 0, [3])]),
  (114, [(.iinc 4 1, 3, []), (.goto (-83), 3, [1])]),
  (120, [(.iload_n 3, 1, []), (.ireturn, 1, [])])]
abbrev M_X9_bendOut : Md := (114, 9, 6, (some .int), P_X9_bendOut)
theorem ok_X9_bendOut : k_okM M_X9_bendOut := by unfold k_okM; decide +kernel
def P_X9_goBeside : CB := [(0, [(.aload_n 0, 1, []), (.getfield 9, 3, [9, 0, 1]), (.getfield 57, 3, [2, 5, 1]), (.iload_n 2, 1, []), (.bipush 6, 2, []), (.imul, 1, []), (.iload_n 3, 1, []), (.iadd, 1, []), (.iaload, 1, []), (.istore 5, 2, []), (.aload_n 0, 1, []), (.getfield 9, 3, [9, 0, 1]), (.getfield 57, 3, [2, 5, 1]), (.iload_n 2, 1, []), (.bipush 6, 2, []), (.imul, 1, []), (.iload 4, 2, []), (.iadd, 1, []), (.iaload, 1, []), (.istore 6, 2, []), (.iload 5, 2, []), (.iconst (-1), 1, []), (.if_icmp .eq 19, 3, [1]), (.iload 6, 2, []), (.iconst (-1), 1, []), (.if_icmp .eq 13, 3, [1]), (.aload_n 0, 1, []), (.iload_n 1, 1, []), (.iload 6, 2, []), (.invokevirtual 84, 3, [116, 3, 9]), (.ifCond .ne 5, 3, [2]), (.nop, 0, [1])]),
  (55, [(.iconst 0, 1, []), (.ireturn, 1, [])]),
  (57, [(.aload_n 0, 1, []), (.getfield 9, 3, [9, 0, 1]), (.getfield 57, 3, [2, 5, 1]), (.iload 5, 2, []), (.bipush 6, 2, []), (.imul, 1, []), (.iload 4, 2, []), (.iadd, 1, []), (.iaload, 1, []), (.istore 7, 2, []), (.iload 7, 2, []), (.iconst (-1), 1, []), (.if_icmp .eq 13, 3, [3]), (.aload_n 0, 1, []), (.iload_n 1, 1, []), (.iload 7, 2, []), (.invokevirtual 84, 3, [116, 3, 9]), (.ifCond .ne 5, 3, [4]), (.nop, 0, [3])]),
  (91, [(.iconst 0, 1, []), (.ireturn, 1, [])]),
  (93, [(.aload_n 0, 1, []), (.getfield 15, 3, [9, 1, 1]), (.iload_n 1, 1, []), (.iload_n 2, 1, []), (.iload_n 3, 1, []), (.invokevirtual 88, 3, [43, 4, 3]), (.aload_n 0, 1, []), (.getfield 15, 3, [9, 1, 1]), (.iload_n 1, 1, []), (.iload_n 2, 1, []), (.iload 4, 2, []), (.invokevirtual 92, 3, [41, 4, 3]), (.pop, 1, []), (.aload_n 0, 1, []), (.getfield 15, 3, [9, 1, 1]), (.iload_n 1, 1, []), (.iload 6, 2, []), (.iload_n 3, 1, []), (.invokevirtual 92, 3, [41, 4, 3]), (.pop, 1, []), (.aload_n 0, 1, []), (.getfield 15, 3, [9, 1, 1]), (.iload_n 1, 1, []), (.iload 5, 2, []), (.iload 4, 2, []), (.invokevirtual 92, 3, [41, 4, 3]), (.pop, 1, []), (.iconst 1, 1, []), (.ireturn, 1, [])])]
abbrev M_X9_goBeside : Md := (115, 9, 8, (some .boolean), P_X9_goBeside)
theorem ok_X9_goBeside : k_okM M_X9_goBeside := by unfold k_okM; decide +kernel
def P_X9_isOpen : CB := [(0, [(.aload_n 0, 1, []), (.getfield 19, 3, [9, 2, 1]), (.getfield 96, 3, [6, 5, 1]), (.iload_n 2, 1, []), (.iaload, 1, []), (.ifCond .eq 22, 3, [1]), (.aload_n 0, 1, []), (.getfield 15, 3, [9, 1, 1]), (.iload_n 2, 1, []), (.invokevirtual 99, 3, [52, 2, 3]), (.iload_n 1, 1, []), (.ishr, 1, []), (.iconst 1, 1, []), (.iand, 1, []), (.ifCond .ne 7, 3, [1]), (.iconst 1, 1, []), (.goto 4, 3, [2])]),
  (31, [(.iconst 0, 1, []), (.nop, 0, [2])]),
  (32, [(.ireturn, 1, [])])]
abbrev M_X9_isOpen : Md := (116, 9, 3, (some .boolean), P_X9_isOpen)
theorem ok_X9_isOpen : k_okM M_X9_isOpen := by unfold k_okM; decide +kernel
def P_X9_longestBeside : CB := [(0, [(.aload_n 0, 1, []), (.iload_n 1, 1, []), (.invokevirtual 73, 3, [113, 2, 9]), (.iconst 0, 1, []), (.istore_n 3, 1, []), (.iconst 0, 1, []), (.istore 4, 2, []), (.iconst 0, 1, []), (.istore 5, 2, []), (.nop, 0, [1])]),
  (13, [(.iload 5, 2, []), (.aload_n 0, 1, []), (.getfield 51, 3, [9, 5, 0]), (.if_icmp .gt 41, 3, [4]), (.aload_n 0, 1, []), (.aload_n 0, 1, []), (.getfield 29, 3, [9, 3, 1]), (.iload 5, 2, []), (.iaload, 1, []), (.iload_n 2, 1, []), (.invokevirtual 102, 3, [118, 3, 9]), (.ifCond .eq 10, 3, [2]), (.iload 4, 2, []), (.iconst 1, 1, []), (.iadd, 1, []), (.goto 4, 3, [3])]),
  (44, [(.iconst 0, 1, []), (.nop, 0, [3])]),
  (45, [(.istore 4, 2, []), (.iload_n 3, 1, []), (.iload 4, 2, []), (.invokestatic 105, 3, [0]), (.istore_n 3, 1, []), (.iinc 5 1, 3, []), (.goto (-44), 3, [1])]),
  (60, [(.iload_n 3, 1, []), (.ireturn, 1, [])])]
abbrev M_X9_longestBeside : Md := (117, 9, 6, (some .int), P_X9_longestBeside)
theorem ok_X9_longestBeside : k_okM M_X9_longestBeside := by unfold k_okM; decide +kernel
def P_X9_touches : CB := [(0, [(.iconst 0, 1, []), (.istore_n 3, 1, []), (.nop, 0, [1])]),
  (2, [(.iload_n 3, 1, []), (.iconst 4, 1, []), (.if_icmp .ge 49, 3, [3]), (.aload_n 0, 1, []), (.getfield 9, 3, [9, 0, 1]), (.getfield 57, 3, [2, 5, 1]), (.iload_n 1, 1, []), (.bipush 6, 2, []), (.imul, 1, []), (.iload_n 3, 1, []), (.iadd, 1, []), (.iaload, 1, []), (.istore 4, 2, []), (.iload 4, 2, []), (.iconst (-1), 1, []), (.if_icmp .eq 21, 3, [2]), (.aload_n 0, 1, []), (.getfield 15, 3, [9, 1, 1]), (.iload 4, 2, []), (.invokevirtual 99, 3, [52, 2, 3]), (.iload_n 2, 1, []), (.ishr, 1, []), (.iconst 1, 1, []), (.iand, 1, []), (.ifCond .eq 5, 3, [2]), (.iconst 1, 1, []), (.ireturn, 1, [])]),
  (47, [(.iinc 3 1, 3, []), (.goto (-48), 3, [1])]),
  (53, [(.iconst 0, 1, []), (.ireturn, 1, [])])]
abbrev M_X9_touches : Md := (118, 9, 5, (some .boolean), P_X9_touches)
theorem ok_X9_touches : k_okM M_X9_touches := by unfold k_okM; decide +kernel
def P_X10_tryWholly : CB := [(0, [(.aload_n 0, 1, []), (.getfield 21, 3, [10, 0, 1]), (.getfield 33, 3, [2, 4, 0]), (.bipush 24, 2, []), (.if_icmp .gt 11, 3, [1]), (.iload_n 1, 1, []), (.invokestatic 63, 3, [316, 1]), (.iconst 3, 1, []), (.if_icmp .le 5, 3, [2]), (.nop, 0, [1])]),
  (20, [(.iconst (-1), 1, []), (.ireturn, 1, [])]),
  (22, [(.aload_n 0, 1, []), (.iconst 0, 1, []), (.putfield 69, 3, [10, 6, 0]), (.iconst 0, 1, []), (.istore_n 2, 1, []), (.nop, 0, [3])]),
  (29, [(.iload_n 2, 1, []), (.aload_n 0, 1, []), (.getfield 25, 3, [10, 1, 1]), (.getfield 72, 3, [3, 14, 0]), (.if_icmp .ge 78, 3, [7]), (.iload_n 1, 1, []), (.iload_n 2, 1, []), (.ishr, 1, []), (.iconst 1, 1, []), (.iand, 1, []), (.ifCond .eq 64, 3, [6]), (.aload_n 0, 1, []), (.getfield 25, 3, [10, 1, 1]), (.getfield 75, 3, [3, 4, 1]), (.iload_n 2, 1, []), (.iaload, 1, []), (.iconst 2, 1, []), (.if_icmp .ne 14, 3, [4]), (.aload_n 0, 1, []), (.getfield 25, 3, [10, 1, 1]), (.iload_n 2, 1, []), (.invokevirtual 78, 3, [49, 2, 3]), (.ifCond .eq 5, 3, [5]), (.nop, 0, [4])]),
  (72, [(.iconst (-1), 1, []), (.ireturn, 1, [])]),
  (74, [(.aload_n 0, 1, []), (.getfield 11, 3, [10, 3, 1]), (.aload_n 0, 1, []), (.getfield 69, 3, [10, 6, 0]), (.iload_n 2, 1, []), (.iastore, 1, []), (.aload_n 0, 1, []), (.getfield 15, 3, [10, 4, 1]), (.aload_n 0, 1, []), (.getfield 69, 3, [10, 6, 0]), (.aload_n 0, 1, []), (.iload_n 2, 1, []), (.iload_n 1, 1, []), (.invokevirtual 82, 3, [121, 3, 10]), (.iastore, 1, []), (.aload_n 0, 1, []), (.dup, 1, []), (.getfield 69, 3, [10, 6, 0]), (.iconst 1, 1, []), (.iadd, 1, []), (.putfield 69, 3, [10, 6, 0]), (.nop, 0, [6])]),
  (109, [(.iinc 2 1, 3, []), (.goto (-83), 3, [3])]),
  (115, [(.aload_n 0, 1, []), (.iconst 0, 1, []), (.iconst 0, 1, []), (.invokevirtual 86, 3, [124, 3, 10]), (.ifCond .eq 16, 3, [8]), (.aload_n 0, 1, []), (.iconst 0, 1, []), (.iconst 0, 1, []), (.invokevirtual 90, 3, [122, 3, 10]), (.ifCond .eq 7, 3, [8]), (.iconst 1, 1, []), (.goto 4, 3, [9])]),
  (137, [(.iconst 0, 1, []), (.nop, 0, [9])]),
  (138, [(.ireturn, 1, [])])]
abbrev M_X10_tryWholly : Md := (120, 10, 3, (some .int), P_X10_tryWholly)
theorem ok_X10_tryWholly : k_okM M_X10_tryWholly := by unfold k_okM; decide +kernel
