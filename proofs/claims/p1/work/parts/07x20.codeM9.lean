/-! code as data (written by wip/whole/gencode.py) -/
def P_X12_steady : CB := [(0, [(.aload_n 0, 1, []), (.invokevirtual 464, 3, [302, 1, 12]), (.aload_n 0, 1, []), (.invokevirtual 476, 3, [242, 1, 12]), (.pop, 1, []), (.iconst 1, 1, []), (.istore_n 1, 1, []), (.iconst 0, 1, []), (.istore_n 2, 1, []), (.nop, 0, [1])]),
  (13, [(.iload_n 2, 1, []), (.aload_n 0, 1, []), (.getfield 202, 3, [12, 26, 0]), (.if_icmp .ge 71, 3, [8]), (.iload_n 1, 1, []), (.ifCond .eq 22, 3, [2]), (.aload_n 0, 1, []), (.getfield 58, 3, [12, 22, 1]), (.iload_n 2, 1, []), (.iaload, 1, []), (.aload_n 0, 1, []), (.getfield 128, 3, [12, 53, 1]), (.iload_n 2, 1, []), (.iaload, 1, []), (.if_icmp .ne 7, 3, [2]), (.iconst 1, 1, []), (.goto 4, 3, [3])]),
  (44, [(.iconst 0, 1, []), (.nop, 0, [3])]),
  (45, [(.istore_n 1, 1, []), (.iconst 0, 1, []), (.istore_n 3, 1, []), (.nop, 0, [4])]),
  (48, [(.iload_n 3, 1, []), (.aload_n 0, 1, []), (.getfield 58, 3, [12, 22, 1]), (.iload_n 2, 1, []), (.iaload, 1, []), (.if_icmp .ge 28, 3, [7]), (.iload_n 1, 1, []), (.ifCond .eq 16, 3, [5]), (.aload_n 0, 1, []), (.iload_n 2, 1, []), (.iload_n 3, 1, []), (.invokevirtual 486, 3, [309, 3, 12]), (.ifCond .eq 7, 3, [5]), (.iconst 1, 1, []), (.goto 4, 3, [6])]),
  (75, [(.iconst 0, 1, []), (.nop, 0, [6])]),
  (76, [(.istore_n 1, 1, []), (.iinc 3 1, 3, []), (.goto (-32), 3, [4])]),
  (83, [(.iinc 2 1, 3, []), (.goto (-73), 3, [1])]),
  (89, [(.aload_n 0, 1, []), (.invokevirtual 473, 3, [303, 1, 12]), (.iload_n 1, 1, []), (.ireturn, 1, [])])]
abbrev M_X12_steady : Md := (310, 12, 4, (some .boolean), P_X12_steady)
theorem ok_X12_steady : k_okM M_X12_steady := by unfold k_okM; decide +kernel
def P_X12_room : CB := [(0, [(.iload_n 0, 1, []), (.iload_n 2, 1, []), (.iadd, 1, []), (.iload_n 1, 1, []), (.iload_n 2, 1, []), (.iadd, 1, []), (.idiv, 1, []), (.ireturn, 1, [])])]
abbrev M_X12_room : Md := (311, 12, 3, (some .int), P_X12_room)
theorem ok_X12_room : k_okM M_X12_room := by unfold k_okM; decide +kernel
def P_X12_panel : CB := [(0, [(.iload_n 1, 1, []), (.iconst 1, 1, []), (.sipush 200, 3, []), (.invokestatic 175, 3, [179, 3]), (.ifCond .eq 34, 3, [1]), (.iload_n 2, 1, []), (.iconst 1, 1, []), (.sipush 200, 3, []), (.invokestatic 175, 3, [179, 3]), (.ifCond .eq 23, 3, [1]), (.iload_n 3, 1, []), (.iconst 0, 1, []), (.bipush 9, 2, []), (.invokestatic 175, 3, [179, 3]), (.ifCond .eq 13, 3, [1]), (.iload 4, 2, []), (.iconst 0, 1, []), (.iconst 3, 1, []), (.invokestatic 175, 3, [179, 3]), (.ifCond .ne 5, 3, [2]), (.nop, 0, [1])]),
  (42, [(.iconst (-1), 1, []), (.ireturn, 1, [])]),
  (44, [(.iload_n 2, 1, []), (.aload_n 0, 1, []), (.getfield 139, 3, [12, 2, 0]), (.iload_n 3, 1, []), (.invokestatic 489, 3, [311, 3]), (.istore 5, 2, []), (.iload_n 2, 1, []), (.aload_n 0, 1, []), (.getfield 135, 3, [12, 1, 0]), (.iload_n 3, 1, []), (.invokestatic 489, 3, [311, 3]), (.istore 6, 2, []), (.iload_n 1, 1, []), (.aload_n 0, 1, []), (.getfield 135, 3, [12, 1, 0]), (.iload_n 3, 1, []), (.invokestatic 489, 3, [311, 3]), (.istore 7, 2, []), (.iload 7, 2, []), (.iload 5, 2, []), (.imul, 1, []), (.istore 8, 2, []), (.iload_n 1, 1, []), (.aload_n 0, 1, []), (.getfield 139, 3, [12, 2, 0]), (.iload_n 3, 1, []), (.invokestatic 489, 3, [311, 3]), (.iload 6, 2, []), (.imul, 1, []), (.istore 9, 2, []), (.iload 4, 2, []), (.iconst 2, 1, []), (.if_icmp .ge 32, 3, [6]), (.iload 4, 2, []), (.iconst 1, 1, []), (.if_icmp .ne 18, 3, [4]), (.iload 9, 2, []), (.iload 8, 2, []), (.if_icmp .le 7, 3, [3]), (.iconst 1, 1, []), (.goto 14, 3, [5])]),
  (121, [(.iconst 0, 1, []), (.goto 10, 3, [5])]),
  (125, [(.iload 8, 2, []), (.iload 9, 2, []), (.invokestatic 9, 3, [0]), (.nop, 0, [5])]),
  (132, [(.ireturn, 1, [])]),
  (133, [(.iconst (-1), 1, []), (.istore 10, 2, []), (.iconst 0, 1, []), (.istore 11, 2, []), (.iconst 0, 1, []), (.istore 12, 2, []), (.nop, 0, [7])]),
  (142, [(.iload 12, 2, []), (.iload 7, 2, []), (.if_icmp .gt 67, 3, [11]), (.iload_n 1, 1, []), (.iload 12, 2, []), (.aload_n 0, 1, []), (.getfield 135, 3, [12, 1, 0]), (.iload_n 3, 1, []), (.iadd, 1, []), (.imul, 1, []), (.isub, 1, []), (.istore 13, 2, []), (.iload 12, 2, []), (.iload 5, 2, []), (.imul, 1, []), (.iload 13, 2, []), (.ifCond .le 19, 3, [8]), (.iload 13, 2, []), (.aload_n 0, 1, []), (.getfield 139, 3, [12, 2, 0]), (.iload_n 3, 1, []), (.invokestatic 489, 3, [311, 3]), (.iload 6, 2, []), (.imul, 1, []), (.goto 4, 3, [9])]),
  (188, [(.iconst 0, 1, []), (.nop, 0, [9])]),
  (189, [(.iadd, 1, []), (.istore 14, 2, []), (.iload 14, 2, []), (.iload 10, 2, []), (.if_icmp .le 11, 3, [10]), (.iload 14, 2, []), (.istore 10, 2, []), (.iload 12, 2, []), (.istore 11, 2, []), (.nop, 0, [10])]),
  (207, [(.iinc 12 1, 3, []), (.goto (-68), 3, [7])]),
  (213, [(.iload 4, 2, []), (.iconst 2, 1, []), (.if_icmp .ne 8, 3, [12]), (.iload 10, 2, []), (.goto 5, 3, [13])]),
  (224, [(.iload 11, 2, []), (.nop, 0, [13])]),
  (226, [(.ireturn, 1, [])])]
abbrev M_X12_panel : Md := (312, 12, 15, (some .int), P_X12_panel)
theorem ok_X12_panel : k_okM M_X12_panel := by unfold k_okM; decide +kernel
def P_X12_unwire : CB := [(0, [(.aload_n 0, 1, []), (.iload_n 1, 1, []), (.invokevirtual 220, 3, [198, 2, 12]), (.ifCond .eq 12, 3, [1]), (.aload_n 0, 1, []), (.getfield 49, 3, [12, 19, 1]), (.iload_n 1, 1, []), (.iaload, 1, []), (.ifCond .ne 5, 3, [2]), (.nop, 0, [1])]),
  (17, [(.iconst 0, 1, []), (.ireturn, 1, [])]),
  (19, [(.aload_n 0, 1, []), (.getfield 49, 3, [12, 19, 1]), (.iload_n 1, 1, []), (.iconst 0, 1, []), (.iastore, 1, []), (.iconst 0, 1, []), (.istore_n 2, 1, []), (.nop, 0, [3])]),
  (28, [(.iload_n 2, 1, []), (.sipush 324, 3, []), (.if_icmp .ge 25, 3, [4]), (.aload_n 0, 1, []), (.getfield 71, 3, [12, 27, 1]), (.sipush 324, 3, []), (.iload_n 1, 1, []), (.imul, 1, []), (.iload_n 2, 1, []), (.iadd, 1, []), (.dup2, 1, []), (.iaload, 1, []), (.iconst 2, 1, []), (.iand, 1, []), (.iastore, 1, []), (.iinc 2 1, 3, []), (.goto (-26), 3, [3])]),
  (57, [(.iconst 0, 1, []), (.istore_n 2, 1, []), (.nop, 0, [5])]),
  (59, [(.iload_n 2, 1, []), (.aload_n 0, 1, []), (.getfield 43, 3, [12, 17, 1]), (.iload_n 1, 1, []), (.iaload, 1, []), (.if_icmp .ge 34, 3, [6]), (.aload_n 0, 1, []), (.getfield 71, 3, [12, 27, 1]), (.sipush 324, 3, []), (.iload_n 1, 1, []), (.imul, 1, []), (.aload_n 0, 1, []), (.getfield 46, 3, [12, 18, 1]), (.iconst 4, 1, []), (.iload_n 1, 1, []), (.imul, 1, []), (.iload_n 2, 1, []), (.iadd, 1, []), (.iaload, 1, []), (.iadd, 1, []), (.dup2, 1, []), (.iaload, 1, []), (.iconst 1, 1, []), (.ior, 1, []), (.iastore, 1, []), (.iinc 2 1, 3, []), (.goto (-38), 3, [5])]),
  (100, [(.iconst 1, 1, []), (.ireturn, 1, [])])]
abbrev M_X12_unwire : Md := (313, 12, 3, (some .boolean), P_X12_unwire)
theorem ok_X12_unwire : k_okM M_X12_unwire := by unfold k_okM; decide +kernel
def P_X12_count : CB := [(0, [(.iload_n 1, 1, []), (.tableswitch 69 0 5 #[39, 44, 49, 54, 59, 64], 39, [7, 1, 2, 3, 4, 5, 6])]),
  (40, [(.aload_n 0, 1, []), (.getfield 199, 3, [12, 13, 0]), (.ireturn, 1, [])]),
  (45, [(.aload_n 0, 1, []), (.getfield 202, 3, [12, 26, 0]), (.ireturn, 1, [])]),
  (50, [(.aload_n 0, 1, []), (.getfield 152, 3, [12, 5, 0]), (.ireturn, 1, [])]),
  (55, [(.aload_n 0, 1, []), (.getfield 135, 3, [12, 1, 0]), (.ireturn, 1, [])]),
  (60, [(.aload_n 0, 1, []), (.getfield 139, 3, [12, 2, 0]), (.ireturn, 1, [])]),
  (65, [(.aload_n 0, 1, []), (.getfield 142, 3, [12, 3, 0]), (.ireturn, 1, [])]),
  (70, [(.iconst (-1), 1, []), (.ireturn, 1, [])])]
abbrev M_X12_count : Md := (314, 12, 2, (some .int), P_X12_count)
theorem ok_X12_count : k_okM M_X12_count := by unfold k_okM; decide +kernel
