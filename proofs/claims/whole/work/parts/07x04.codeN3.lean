/-! code as data (written by wip/whole/gencode.py) -/
def P_X4_partPlane : CB := [(0, [(.aload_n 0, 1, []), (.iconst 0, 1, []), (.putfield 46, 3, [4, 3, 0]), (.aload_n 0, 1, []), (.iconst 0, 1, []), (.putfield 49, 3, [4, 4, 0]), (.aload_n 0, 1, []), (.getfield 19, 3, [4, 2, 1]), (.getfield 56, 3, [6, 6, 1]), (.iconst 0, 1, []), (.invokestatic 59, 3, [322, 2]), (.iload_n 1, 1, []), (.aload_n 0, 1, []), (.getfield 9, 3, [4, 0, 1]), (.getfield 65, 3, [2, 3, 0]), (.imul, 1, []), (.istore_n 2, 1, []), (.nop, 0, [1])]),
  (31, [(.iload_n 2, 1, []), (.iload_n 1, 1, []), (.iconst 1, 1, []), (.iadd, 1, []), (.aload_n 0, 1, []), (.getfield 9, 3, [4, 0, 1]), (.getfield 65, 3, [2, 3, 0]), (.imul, 1, []), (.if_icmp .ge 74, 3, [4]), (.aload_n 0, 1, []), (.getfield 19, 3, [4, 2, 1]), (.getfield 39, 3, [6, 5, 1]), (.iload_n 2, 1, []), (.iaload, 1, []), (.ifCond .eq 56, 3, [3]), (.aload_n 0, 1, []), (.getfield 19, 3, [4, 2, 1]), (.getfield 56, 3, [6, 6, 1]), (.iload_n 2, 1, []), (.iaload, 1, []), (.ifCond .ne 44, 3, [3]), (.aload_n 0, 1, []), (.getfield 19, 3, [4, 2, 1]), (.iload_n 2, 1, []), (.iconst 4, 1, []), (.invokevirtual 68, 3, [85, 3, 6]), (.istore_n 3, 1, []), (.aload_n 0, 1, []), (.iload_n 3, 1, []), (.invokevirtual 72, 3, [63, 2, 4]), (.ifCond .eq 16, 3, [2]), (.aload_n 0, 1, []), (.dup, 1, []), (.getfield 46, 3, [4, 3, 0]), (.iconst 1, 1, []), (.iadd, 1, []), (.putfield 46, 3, [4, 3, 0]), (.goto 13, 3, [3])]),
  (101, [(.aload_n 0, 1, []), (.dup, 1, []), (.getfield 49, 3, [4, 4, 0]), (.iconst 1, 1, []), (.iadd, 1, []), (.putfield 49, 3, [4, 4, 0]), (.nop, 0, [3])]),
  (111, [(.iinc 2 1, 3, []), (.goto (-83), 3, [1])]),
  (117, [(.return_, 1, [])])]
abbrev M_X4_partPlane : Md := (62, 4, 4, none, P_X4_partPlane)
theorem ok_X4_partPlane : k_okM M_X4_partPlane := by unfold k_okM; decide +kernel
def P_X4_hasOwn : CB := [(0, [(.iconst 0, 1, []), (.istore_n 2, 1, []), (.nop, 0, [1])]),
  (2, [(.iload_n 2, 1, []), (.iload_n 1, 1, []), (.if_icmp .ge 31, 3, [3]), (.aload_n 0, 1, []), (.getfield 19, 3, [4, 2, 1]), (.getfield 76, 3, [6, 4, 1]), (.aload_n 0, 1, []), (.getfield 19, 3, [4, 2, 1]), (.getfield 79, 3, [6, 7, 1]), (.iload_n 2, 1, []), (.iaload, 1, []), (.iaload, 1, []), (.ifCond .eq 5, 3, [2]), (.iconst 1, 1, []), (.ireturn, 1, [])]),
  (29, [(.iinc 2 1, 3, []), (.goto (-30), 3, [1])]),
  (35, [(.iconst 0, 1, []), (.ireturn, 1, [])])]
abbrev M_X4_hasOwn : Md := (63, 4, 3, (some .boolean), P_X4_hasOwn)
theorem ok_X4_hasOwn : k_okM M_X4_hasOwn := by unfold k_okM; decide +kernel
def P_X4_necks : CB := [(0, [(.aload_n 0, 1, []), (.getfield 46, 3, [4, 3, 0]), (.istore_n 2, 1, []), (.iconst 0, 1, []), (.istore_n 3, 1, []), (.iload_n 1, 1, []), (.aload_n 0, 1, []), (.getfield 9, 3, [4, 0, 1]), (.getfield 65, 3, [2, 3, 0]), (.imul, 1, []), (.istore 4, 2, []), (.nop, 0, [1])]),
  (18, [(.iload 4, 2, []), (.iload_n 1, 1, []), (.iconst 1, 1, []), (.iadd, 1, []), (.aload_n 0, 1, []), (.getfield 9, 3, [4, 0, 1]), (.getfield 65, 3, [2, 3, 0]), (.imul, 1, []), (.if_icmp .ge 78, 3, [5]), (.aload_n 0, 1, []), (.getfield 19, 3, [4, 2, 1]), (.getfield 39, 3, [6, 5, 1]), (.iload 4, 2, []), (.iaload, 1, []), (.ifCond .eq 59, 3, [4]), (.aload_n 0, 1, []), (.getfield 19, 3, [4, 2, 1]), (.getfield 76, 3, [6, 4, 1]), (.iload 4, 2, []), (.iaload, 1, []), (.ifCond .ne 46, 3, [4]), (.aload_n 0, 1, []), (.getfield 19, 3, [4, 2, 1]), (.getfield 39, 3, [6, 5, 1]), (.iload 4, 2, []), (.iconst 0, 1, []), (.iastore, 1, []), (.aload_n 0, 1, []), (.iload_n 1, 1, []), (.invokevirtual 43, 3, [62, 2, 4]), (.aload_n 0, 1, []), (.getfield 19, 3, [4, 2, 1]), (.getfield 39, 3, [6, 5, 1]), (.iload 4, 2, []), (.iconst 1, 1, []), (.iastore, 1, []), (.iload_n 3, 1, []), (.aload_n 0, 1, []), (.getfield 46, 3, [4, 3, 0]), (.iload_n 2, 1, []), (.if_icmp .le 7, 3, [2]), (.iconst 1, 1, []), (.goto 4, 3, [3])]),
  (100, [(.iconst 0, 1, []), (.nop, 0, [3])]),
  (101, [(.iadd, 1, []), (.istore_n 3, 1, []), (.nop, 0, [4])]),
  (103, [(.iinc 4 1, 3, []), (.goto (-88), 3, [1])]),
  (109, [(.iload_n 3, 1, []), (.ireturn, 1, [])])]
abbrev M_X4_necks : Md := (64, 4, 5, (some .int), P_X4_necks)
theorem ok_X4_necks : k_okM M_X4_necks := by unfold k_okM; decide +kernel
def P_X4_spokesAt : CB := [(0, [(.aload_n 0, 1, []), (.getfield 19, 3, [4, 2, 1]), (.iload_n 1, 1, []), (.iconst 1, 1, []), (.invokevirtual 23, 3, [77, 3, 6]), (.aload_n 0, 1, []), (.getfield 19, 3, [4, 2, 1]), (.aload_n 0, 1, []), (.getfield 9, 3, [4, 0, 1]), (.getfield 82, 3, [2, 8, 1]), (.iload_n 2, 1, []), (.iaload, 1, []), (.invokevirtual 29, 3, [82, 2, 6]), (.iconst 0, 1, []), (.istore_n 3, 1, []), (.iconst 0, 1, []), (.istore 4, 2, []), (.nop, 0, [1])]),
  (30, [(.iload 4, 2, []), (.iconst 4, 1, []), (.if_icmp .ge 49, 3, [4]), (.aload_n 0, 1, []), (.getfield 9, 3, [4, 0, 1]), (.getfield 85, 3, [2, 5, 1]), (.iload_n 2, 1, []), (.bipush 6, 2, []), (.imul, 1, []), (.iload 4, 2, []), (.iadd, 1, []), (.iaload, 1, []), (.istore 5, 2, []), (.iload_n 3, 1, []), (.iload 5, 2, []), (.iconst (-1), 1, []), (.if_icmp .ne 7, 3, [2]), (.iconst 0, 1, []), (.goto 13, 3, [3])]),
  (64, [(.aload_n 0, 1, []), (.getfield 19, 3, [4, 2, 1]), (.getfield 39, 3, [6, 5, 1]), (.iload 5, 2, []), (.iaload, 1, []), (.nop, 0, [3])]),
  (74, [(.iadd, 1, []), (.istore_n 3, 1, []), (.iinc 4 1, 3, []), (.goto (-49), 3, [1])]),
  (82, [(.iload_n 3, 1, []), (.ireturn, 1, [])])]
abbrev M_X4_spokesAt : Md := (65, 4, 6, (some .int), P_X4_spokesAt)
theorem ok_X4_spokesAt : k_okM M_X4_spokesAt := by unfold k_okM; decide +kernel
def P_X4_withoutReturn : CB := [(0, [(.aload_n 0, 1, []), (.getfield 19, 3, [4, 2, 1]), (.iload_n 2, 1, []), (.iconst 1, 1, []), (.invokevirtual 23, 3, [77, 3, 6]), (.aload_n 0, 1, []), (.getfield 19, 3, [4, 2, 1]), (.iload_n 3, 1, []), (.invokevirtual 29, 3, [82, 2, 6]), (.iconst 0, 1, []), (.istore 4, 2, []), (.iload_n 3, 1, []), (.aload_n 0, 1, []), (.getfield 9, 3, [4, 0, 1]), (.getfield 65, 3, [2, 3, 0]), (.imul, 1, []), (.istore 5, 2, []), (.nop, 0, [1])]),
  (31, [(.iload 5, 2, []), (.iload_n 3, 1, []), (.iconst 1, 1, []), (.iadd, 1, []), (.aload_n 0, 1, []), (.getfield 9, 3, [4, 0, 1]), (.getfield 65, 3, [2, 3, 0]), (.imul, 1, []), (.if_icmp .ge 80, 3, [5]), (.iconst 4, 1, []), (.istore 6, 2, []), (.nop, 0, [2])]),
  (50, [(.iload 6, 2, []), (.bipush 6, 2, []), (.if_icmp .ge 64, 3, [4]), (.aload_n 0, 1, []), (.getfield 9, 3, [4, 0, 1]), (.getfield 85, 3, [2, 5, 1]), (.iload 5, 2, []), (.bipush 6, 2, []), (.imul, 1, []), (.iload 6, 2, []), (.iadd, 1, []), (.iaload, 1, []), (.istore 7, 2, []), (.iload 7, 2, []), (.iconst (-1), 1, []), (.if_icmp .eq 34, 3, [3]), (.aload_n 0, 1, []), (.getfield 19, 3, [4, 2, 1]), (.getfield 39, 3, [6, 5, 1]), (.iload 5, 2, []), (.iaload, 1, []), (.ifCond .ne 21, 3, [3]), (.iload 4, 2, []), (.aload_n 0, 1, []), (.getfield 15, 3, [4, 1, 1]), (.iload 7, 2, []), (.invokevirtual 88, 3, [52, 2, 3]), (.iload_n 1, 1, []), (.ishr, 1, []), (.iconst 1, 1, []), (.iand, 1, []), (.iadd, 1, []), (.istore 4, 2, []), (.nop, 0, [3])]),
  (112, [(.iinc 6 1, 3, []), (.goto (-65), 3, [2])]),
  (118, [(.iinc 5 1, 3, []), (.goto (-90), 3, [1])]),
  (124, [(.iload 4, 2, []), (.ireturn, 1, [])])]
abbrev M_X4_withoutReturn : Md := (66, 4, 8, (some .int), P_X4_withoutReturn)
theorem ok_X4_withoutReturn : k_okM M_X4_withoutReturn := by unfold k_okM; decide +kernel
def P_X5_layInOrder : CB := [(0, [(.aload_n 0, 1, []), (.getfield 15, 3, [5, 1, 1]), (.invokevirtual 40, 3, [45, 1, 3]), (.iconst 0, 1, []), (.istore_n 1, 1, []), (.iconst 0, 1, []), (.istore_n 2, 1, []), (.nop, 0, [1])]),
  (11, [(.iload_n 2, 1, []), (.bipush 99, 2, []), (.if_icmp .gt 71, 3, [5]), (.iconst 0, 1, []), (.istore_n 3, 1, []), (.nop, 0, [2])]),
  (19, [(.iload_n 3, 1, []), (.aload_n 0, 1, []), (.getfield 15, 3, [5, 1, 1]), (.getfield 45, 3, [3, 14, 0]), (.if_icmp .ge 52, 3, [4]), (.aload_n 0, 1, []), (.getfield 15, 3, [5, 1, 1]), (.getfield 48, 3, [3, 3, 1]), (.iload_n 3, 1, []), (.iaload, 1, []), (.iload_n 2, 1, []), (.if_icmp .ne 33, 3, [3]), (.aload_n 0, 1, []), (.getfield 15, 3, [5, 1, 1]), (.getfield 51, 3, [3, 4, 1]), (.iload_n 3, 1, []), (.iaload, 1, []), (.ifCond .le 21, 3, [3]), (.aload_n 0, 1, []), (.getfield 23, 3, [5, 3, 1]), (.iload_n 3, 1, []), (.invokevirtual 54, 3, [89, 2, 7]), (.iconst (-1), 1, []), (.if_icmp .ne 9, 3, [3]), (.iload_n 1, 1, []), (.iconst 1, 1, []), (.iload_n 3, 1, []), (.ishl, 1, []), (.ior, 1, []), (.istore_n 1, 1, []), (.nop, 0, [3])]),
  (73, [(.iinc 3 1, 3, []), (.goto (-57), 3, [2])]),
  (79, [(.iinc 2 1, 3, []), (.goto (-71), 3, [1])]),
  (85, [(.iload_n 1, 1, []), (.ireturn, 1, [])])]
abbrev M_X5_layInOrder : Md := (68, 5, 4, (some .int), P_X5_layInOrder)
theorem ok_X5_layInOrder : k_okM M_X5_layInOrder := by unfold k_okM; decide +kernel
def P_X5_pressAll : CB := [(0, [(.aload_n 0, 1, []), (.getfield 15, 3, [5, 1, 1]), (.invokevirtual 40, 3, [45, 1, 3]), (.aload_n 0, 1, []), (.getfield 33, 3, [5, 4, 1]), (.iconst 0, 1, []), (.invokestatic 60, 3, [322, 2]), (.iconst 1, 1, []), (.istore_n 3, 1, []), (.nop, 0, [1])]),
  (17, [(.iload_n 3, 1, []), (.iload_n 1, 1, []), (.if_icmp .gt 28, 3, [4]), (.aload_n 0, 1, []), (.iload_n 2, 1, []), (.invokevirtual 66, 3, [70, 2, 5]), (.ifCond .ne 5, 3, [2]), (.iconst (-1), 1, []), (.ireturn, 1, [])]),
  (32, [(.aload_n 0, 1, []), (.invokevirtual 70, 3, [71, 1, 5]), (.ifCond .ne 5, 3, [3]), (.iload_n 3, 1, []), (.ireturn, 1, [])]),
  (41, [(.iinc 3 1, 3, []), (.goto (-27), 3, [1])]),
  (47, [(.iconst (-1), 1, []), (.ireturn, 1, [])])]
abbrev M_X5_pressAll : Md := (69, 5, 4, (some .int), P_X5_pressAll)
theorem ok_X5_pressAll : k_okM M_X5_pressAll := by unfold k_okM; decide +kernel
def P_X5_layTurn : CB := [(0, [(.iconst 1, 1, []), (.istore_n 2, 1, []), (.iconst 0, 1, []), (.istore_n 3, 1, []), (.nop, 0, [1])]),
  (4, [(.iload_n 3, 1, []), (.aload_n 0, 1, []), (.getfield 15, 3, [5, 1, 1]), (.getfield 45, 3, [3, 14, 0]), (.if_icmp .ge 125, 3, [7]), (.iload_n 2, 1, []), (.ifCond .eq 121, 3, [7]), (.aload_n 0, 1, []), (.getfield 15, 3, [5, 1, 1]), (.getfield 51, 3, [3, 4, 1]), (.iload_n 3, 1, []), (.iaload, 1, []), (.ifCond .le 103, 3, [6]), (.aload_n 0, 1, []), (.getfield 15, 3, [5, 1, 1]), (.iload_n 3, 1, []), (.invokevirtual 74, 3, [44, 2, 3]), (.aload_n 0, 1, []), (.getfield 19, 3, [5, 2, 1]), (.iload_n 3, 1, []), (.iconst 0, 1, []), (.invokevirtual 78, 3, [77, 3, 6]), (.aload_n 0, 1, []), (.getfield 19, 3, [5, 2, 1]), (.sipush 255, 3, []), (.invokevirtual 84, 3, [81, 2, 6]), (.iconst 0, 1, []), (.istore 4, 2, []), (.nop, 0, [2])]),
  (61, [(.iload 4, 2, []), (.aload_n 0, 1, []), (.getfield 9, 3, [5, 0, 1]), (.getfield 27, 3, [2, 4, 0]), (.if_icmp .ge 42, 3, [3]), (.aload_n 0, 1, []), (.getfield 23, 3, [5, 3, 1]), (.getfield 87, 3, [7, 3, 1]), (.iload 4, 2, []), (.iload_n 1, 1, []), (.aload_n 0, 1, []), (.getfield 19, 3, [5, 2, 1]), (.getfield 90, 3, [6, 3, 1]), (.iload 4, 2, []), (.iaload, 1, []), (.invokestatic 93, 3, [316, 1]), (.imul, 1, []), (.aload_n 0, 1, []), (.getfield 33, 3, [5, 4, 1]), (.iload 4, 2, []), (.iaload, 1, []), (.iadd, 1, []), (.iastore, 1, []), (.iinc 4 1, 3, []), (.goto (-48), 3, [2])]),
  (112, [(.aload_n 0, 1, []), (.getfield 23, 3, [5, 3, 1]), (.iload_n 3, 1, []), (.iconst 1, 1, []), (.invokevirtual 98, 3, [91, 3, 7]), (.iconst (-1), 1, []), (.if_icmp .eq 7, 3, [4]), (.iconst 1, 1, []), (.goto 4, 3, [5])]),
  (129, [(.iconst 0, 1, []), (.nop, 0, [5])]),
  (130, [(.istore_n 2, 1, []), (.nop, 0, [6])]),
  (131, [(.iinc 3 1, 3, []), (.goto (-130), 3, [1])]),
  (137, [(.aload_n 0, 1, []), (.getfield 23, 3, [5, 3, 1]), (.getfield 87, 3, [7, 3, 1]), (.iconst 0, 1, []), (.invokestatic 60, 3, [322, 2]), (.iload_n 2, 1, []), (.ireturn, 1, [])])]
abbrev M_X5_layTurn : Md := (70, 5, 5, (some .boolean), P_X5_layTurn)
theorem ok_X5_layTurn : k_okM M_X5_layTurn := by unfold k_okM; decide +kernel
def P_X5_warmCrowded : CB := [(0, [(.aload_n 0, 1, []), (.getfield 37, 3, [5, 5, 1]), (.iconst 0, 1, []), (.invokestatic 60, 3, [322, 2]), (.iconst 0, 1, []), (.istore_n 1, 1, []), (.iconst 0, 1, []), (.istore_n 2, 1, []), (.nop, 0, [1])]),
  (12, [(.iload_n 2, 1, []), (.aload_n 0, 1, []), (.getfield 15, 3, [5, 1, 1]), (.getfield 45, 3, [3, 14, 0]), (.if_icmp .ge 74, 3, [5]), (.aload_n 0, 1, []), (.getfield 19, 3, [5, 2, 1]), (.iload_n 2, 1, []), (.iconst 0, 1, []), (.invokevirtual 78, 3, [77, 3, 6]), (.iconst 0, 1, []), (.istore_n 3, 1, []), (.nop, 0, [2])]),
  (34, [(.iload_n 3, 1, []), (.aload_n 0, 1, []), (.getfield 9, 3, [5, 0, 1]), (.getfield 27, 3, [2, 4, 0]), (.if_icmp .ge 46, 3, [4]), (.aload_n 0, 1, []), (.getfield 15, 3, [5, 1, 1]), (.getfield 102, 3, [3, 8, 1]), (.iload_n 3, 1, []), (.iaload, 1, []), (.iload_n 2, 1, []), (.ishr, 1, []), (.iconst 1, 1, []), (.iand, 1, []), (.ifCond .eq 24, 3, [3]), (.aload_n 0, 1, []), (.getfield 19, 3, [5, 2, 1]), (.getfield 90, 3, [6, 3, 1]), (.iload_n 3, 1, []), (.iaload, 1, []), (.ifCond .eq 12, 3, [3]), (.aload_n 0, 1, []), (.getfield 37, 3, [5, 5, 1]), (.iload_n 3, 1, []), (.iconst 1, 1, []), (.iastore, 1, []), (.iconst 1, 1, []), (.istore_n 1, 1, []), (.nop, 0, [3])]),
  (82, [(.iinc 3 1, 3, []), (.goto (-51), 3, [2])]),
  (88, [(.iinc 2 1, 3, []), (.goto (-79), 3, [1])]),
  (94, [(.iconst 0, 1, []), (.istore_n 2, 1, []), (.nop, 0, [6])]),
  (96, [(.iload_n 2, 1, []), (.aload_n 0, 1, []), (.getfield 9, 3, [5, 0, 1]), (.getfield 27, 3, [2, 4, 0]), (.if_icmp .ge 24, 3, [7]), (.aload_n 0, 1, []), (.getfield 33, 3, [5, 4, 1]), (.iload_n 2, 1, []), (.dup2, 1, []), (.iaload, 1, []), (.aload_n 0, 1, []), (.getfield 37, 3, [5, 5, 1]), (.iload_n 2, 1, []), (.iaload, 1, []), (.iadd, 1, []), (.iastore, 1, []), (.iinc 2 1, 3, []), (.goto (-29), 3, [6])]),
  (128, [(.iload_n 1, 1, []), (.ireturn, 1, [])])]
abbrev M_X5_warmCrowded : Md := (71, 5, 4, (some .boolean), P_X5_warmCrowded)
theorem ok_X5_warmCrowded : k_okM M_X5_warmCrowded := by unfold k_okM; decide +kernel
def P_X5_orderFigure : CB := [(0, [(.aload_n 0, 1, []), (.invokevirtual 105, 3, [68, 1, 5]), (.istore_n 2, 1, []), (.iload_n 1, 1, []), (.ifCond .ne 15, 3, [1]), (.aload_n 0, 1, []), (.invokevirtual 109, 3, [74, 1, 5]), (.iload_n 2, 1, []), (.invokestatic 93, 3, [316, 1]), (.isub, 1, []), (.goto 17, 3, [4])]),
  (21, [(.aload_n 0, 1, []), (.iload_n 1, 1, []), (.iconst 1, 1, []), (.if_icmp .ne 7, 3, [2]), (.iconst 1, 1, []), (.goto 4, 3, [3])]),
  (31, [(.iconst 0, 1, []), (.nop, 0, [3])]),
  (32, [(.invokevirtual 112, 3, [75, 2, 5]), (.nop, 0, [4])]),
  (35, [(.ireturn, 1, [])])]
abbrev M_X5_orderFigure : Md := (72, 5, 3, (some .int), P_X5_orderFigure)
theorem ok_X5_orderFigure : k_okM M_X5_orderFigure := by unfold k_okM; decide +kernel
def P_X5_pressFigure : CB := [(0, [(.aload_n 0, 1, []), (.iload_n 1, 1, []), (.iload_n 2, 1, []), (.invokevirtual 116, 3, [69, 3, 5]), (.iconst (-1), 1, []), (.if_icmp .eq 7, 3, [1]), (.iconst 1, 1, []), (.goto 4, 3, [2])]),
  (14, [(.iconst 0, 1, []), (.nop, 0, [2])]),
  (15, [(.istore 4, 2, []), (.iload_n 3, 1, []), (.iconst 3, 1, []), (.if_icmp .ne 14, 3, [5]), (.iload 4, 2, []), (.ifCond .eq 7, 3, [3]), (.iconst 1, 1, []), (.goto 4, 3, [4])]),
  (31, [(.iconst 0, 1, []), (.nop, 0, [4])]),
  (32, [(.ireturn, 1, [])]),
  (33, [(.iload 4, 2, []), (.ifCond .eq 20, 3, [8]), (.aload_n 0, 1, []), (.iload_n 3, 1, []), (.iconst 4, 1, []), (.if_icmp .ne 7, 3, [6]), (.iconst 1, 1, []), (.goto 4, 3, [7])]),
  (48, [(.iconst 0, 1, []), (.nop, 0, [7])]),
  (49, [(.invokevirtual 112, 3, [75, 2, 5]), (.goto 4, 3, [9])]),
  (55, [(.iconst (-1), 1, []), (.nop, 0, [9])]),
  (56, [(.ireturn, 1, [])])]
abbrev M_X5_pressFigure : Md := (73, 5, 5, (some .int), P_X5_pressFigure)
theorem ok_X5_pressFigure : k_okM M_X5_pressFigure := by unfold k_okM; decide +kernel
def P_X5_withPins : CB := [(0, [(.iconst 0, 1, []), (.istore_n 1, 1, []), (.iconst 0, 1, []), (.istore_n 2, 1, []), (.nop, 0, [1])]),
  (4, [(.iload_n 2, 1, []), (.aload_n 0, 1, []), (.getfield 15, 3, [5, 1, 1]), (.getfield 45, 3, [3, 14, 0]), (.if_icmp .ge 24, 3, [3]), (.aload_n 0, 1, []), (.getfield 15, 3, [5, 1, 1]), (.getfield 51, 3, [3, 4, 1]), (.iload_n 2, 1, []), (.iaload, 1, []), (.ifCond .le 6, 3, [2]), (.iinc 1 1, 3, []), (.nop, 0, [2])]),
  (30, [(.iinc 2 1, 3, []), (.goto (-29), 3, [1])]),
  (36, [(.iload_n 1, 1, []), (.ireturn, 1, [])])]
abbrev M_X5_withPins : Md := (74, 5, 3, (some .int), P_X5_withPins)
theorem ok_X5_withPins : k_okM M_X5_withPins := by unfold k_okM; decide +kernel
def P_X5_wholeFigure : CB := [(0, [(.iconst 0, 1, []), (.istore_n 2, 1, []), (.iconst 0, 1, []), (.istore_n 3, 1, []), (.nop, 0, [1])]),
  (4, [(.iload_n 3, 1, []), (.aload_n 0, 1, []), (.getfield 15, 3, [5, 1, 1]), (.getfield 45, 3, [3, 14, 0]), (.if_icmp .ge 35, 3, [4]), (.iload_n 2, 1, []), (.iload_n 1, 1, []), (.ifCond .eq 14, 3, [2]), (.aload_n 0, 1, []), (.getfield 15, 3, [5, 1, 1]), (.iload_n 3, 1, []), (.invokevirtual 120, 3, [54, 2, 3]), (.goto 11, 3, [3])]),
  (31, [(.aload_n 0, 1, []), (.getfield 15, 3, [5, 1, 1]), (.iload_n 3, 1, []), (.invokevirtual 123, 3, [55, 2, 3]), (.nop, 0, [3])]),
  (39, [(.iadd, 1, []), (.istore_n 2, 1, []), (.iinc 3 1, 3, []), (.goto (-40), 3, [1])]),
  (47, [(.iload_n 2, 1, []), (.ireturn, 1, [])])]
abbrev M_X5_wholeFigure : Md := (75, 5, 4, (some .int), P_X5_wholeFigure)
theorem ok_X5_wholeFigure : k_okM M_X5_wholeFigure := by unfold k_okM; decide +kernel
def P_X6_look : CB := [(0, [(.aload_n 0, 1, []), (.iload_n 1, 1, []), (.putfield 47, 3, [6, 9, 0]), (.aload_n 0, 1, []), (.getfield 29, 3, [6, 2, 1]), (.iconst 0, 1, []), (.invokestatic 50, 3, [322, 2]), (.aload_n 0, 1, []), (.getfield 32, 3, [6, 3, 1]), (.iconst 0, 1, []), (.invokestatic 50, 3, [322, 2]), (.aload_n 0, 1, []), (.iload_n 1, 1, []), (.invokevirtual 56, 3, [78, 2, 6]), (.iconst 1, 1, []), (.iload_n 1, 1, []), (.ishl, 1, []), (.iconst (-1), 1, []), (.ixor, 1, []), (.istore_n 3, 1, []), (.iconst 0, 1, []), (.istore 4, 2, []), (.nop, 0, [1])]),
  (35, [(.iload 4, 2, []), (.aload_n 0, 1, []), (.getfield 15, 3, [6, 0, 1]), (.getfield 23, 3, [2, 4, 0]), (.if_icmp .ge 96, 3, [5]), (.iload_n 2, 1, []), (.ifCond .eq 15, 3, [2]), (.aload_n 0, 1, []), (.getfield 19, 3, [6, 1, 1]), (.iload 4, 2, []), (.invokevirtual 60, 3, [52, 2, 3]), (.goto 13, 3, [3])]),
  (63, [(.aload_n 0, 1, []), (.getfield 19, 3, [6, 1, 1]), (.getfield 66, 3, [3, 7, 1]), (.iload 4, 2, []), (.iaload, 1, []), (.nop, 0, [3])]),
  (73, [(.istore 5, 2, []), (.aload_n 0, 1, []), (.getfield 35, 3, [6, 4, 1]), (.iload 4, 2, []), (.iload 5, 2, []), (.iload_n 1, 1, []), (.ishr, 1, []), (.iconst 1, 1, []), (.iand, 1, []), (.iastore, 1, []), (.aload_n 0, 1, []), (.getfield 19, 3, [6, 1, 1]), (.getfield 66, 3, [3, 7, 1]), (.iload 4, 2, []), (.iaload, 1, []), (.iload_n 3, 1, []), (.iand, 1, []), (.istore 6, 2, []), (.aload_n 0, 1, []), (.getfield 19, 3, [6, 1, 1]), (.getfield 69, 3, [3, 8, 1]), (.iload 4, 2, []), (.iaload, 1, []), (.iload_n 3, 1, []), (.iand, 1, []), (.istore 7, 2, []), (.iload 6, 2, []), (.iload 7, 2, []), (.ior, 1, []), (.ifCond .eq 13, 3, [4]), (.aload_n 0, 1, []), (.iload 4, 2, []), (.iload 6, 2, []), (.iload 7, 2, []), (.invokevirtual 72, 3, [79, 4, 6]), (.nop, 0, [4])]),
  (134, [(.iinc 4 1, 3, []), (.goto (-102), 3, [1])]),
  (140, [(.return_, 1, [])])]
abbrev M_X6_look : Md := (77, 6, 8, none, P_X6_look)
theorem ok_X6_look : k_okM M_X6_look := by unfold k_okM; decide +kernel
