/-! code as data (written by wip/whole/gencode.py) -/
def P_X12_movePin : CB := [(0, [(.aload_n 0, 1, []), (.getfield 46, 3, [12, 18, 1]), (.iconst 4, 1, []), (.iload_n 1, 1, []), (.imul, 1, []), (.iload_n 2, 1, []), (.iadd, 1, []), (.iaload, 1, []), (.istore 4, 2, []), (.aload_n 0, 1, []), (.getfield 46, 3, [12, 18, 1]), (.iconst 4, 1, []), (.iload_n 1, 1, []), (.imul, 1, []), (.iload_n 2, 1, []), (.iadd, 1, []), (.iload_n 3, 1, []), (.iastore, 1, []), (.iconst 0, 1, []), (.istore 5, 2, []), (.iconst 0, 1, []), (.istore 6, 2, []), (.nop, 0, [1])]),
  (29, [(.iload 6, 2, []), (.aload_n 0, 1, []), (.getfield 49, 3, [12, 19, 1]), (.iload_n 1, 1, []), (.iaload, 1, []), (.if_icmp .ge 57, 3, [5]), (.iload 5, 2, []), (.ifCond .ne 39, 3, [2]), (.aload_n 0, 1, []), (.getfield 52, 3, [12, 20, 1]), (.sipush 1200, 3, []), (.iload_n 1, 1, []), (.imul, 1, []), (.iload 6, 2, []), (.iadd, 1, []), (.iaload, 1, []), (.iload 4, 2, []), (.if_icmp .eq 21, 3, [2]), (.aload_n 0, 1, []), (.getfield 55, 3, [12, 21, 1]), (.sipush 1200, 3, []), (.iload_n 1, 1, []), (.imul, 1, []), (.iload 6, 2, []), (.iadd, 1, []), (.iaload, 1, []), (.iload 4, 2, []), (.if_icmp .ne 7, 3, [3]), (.nop, 0, [2])]),
  (81, [(.iconst 1, 1, []), (.goto 4, 3, [4])]),
  (85, [(.iconst 0, 1, []), (.nop, 0, [4])]),
  (86, [(.istore 5, 2, []), (.iinc 6 1, 3, []), (.goto (-62), 3, [1])]),
  (94, [(.aload_n 0, 1, []), (.getfield 71, 3, [12, 27, 1]), (.sipush 324, 3, []), (.iload_n 1, 1, []), (.imul, 1, []), (.iload 4, 2, []), (.iadd, 1, []), (.dup2, 1, []), (.iaload, 1, []), (.iload 5, 2, []), (.ifCond .eq 8, 3, [6]), (.bipush 7, 2, []), (.goto 5, 3, [7])]),
  (118, [(.bipush 6, 2, []), (.nop, 0, [7])]),
  (120, [(.iand, 1, []), (.iastore, 1, []), (.aload_n 0, 1, []), (.getfield 71, 3, [12, 27, 1]), (.sipush 324, 3, []), (.iload_n 1, 1, []), (.imul, 1, []), (.iload_n 3, 1, []), (.iadd, 1, []), (.dup2, 1, []), (.iaload, 1, []), (.iconst 1, 1, []), (.ior, 1, []), (.iastore, 1, []), (.return_, 1, [])])]
abbrev M_X12_movePin : Md := (284, 12, 7, none, P_X12_movePin)
theorem ok_X12_movePin : k_okM M_X12_movePin := by unfold k_okM; decide +kernel
def P_X12_late : CB := [(0, [(.aload_n 0, 1, []), (.iload_n 1, 1, []), (.invokevirtual 220, 3, [198, 2, 12]), (.ifCond .eq 31, 3, [1]), (.iload_n 2, 1, []), (.iconst 0, 1, []), (.aload_n 0, 1, []), (.getfield 43, 3, [12, 17, 1]), (.iload_n 1, 1, []), (.iaload, 1, []), (.iconst 1, 1, []), (.isub, 1, []), (.invokestatic 175, 3, [179, 3]), (.ifCond .eq 15, 3, [1]), (.aload_n 0, 1, []), (.iload_n 3, 1, []), (.iload 4, 2, []), (.iload 5, 2, []), (.invokevirtual 214, 3, [199, 4, 12]), (.ifCond .ne 5, 3, [2]), (.nop, 0, [1])]),
  (36, [(.iconst (-1), 1, []), (.ireturn, 1, [])]),
  (38, [(.aload_n 0, 1, []), (.getfield 46, 3, [12, 18, 1]), (.iconst 4, 1, []), (.iload_n 1, 1, []), (.imul, 1, []), (.iload_n 2, 1, []), (.iadd, 1, []), (.iaload, 1, []), (.istore 6, 2, []), (.aload_n 0, 1, []), (.iload_n 3, 1, []), (.iload 4, 2, []), (.iload 5, 2, []), (.invokestatic 217, 3, [200, 3]), (.invokevirtual 223, 3, [206, 2, 12]), (.istore 7, 2, []), (.iload 7, 2, []), (.iconst (-1), 1, []), (.if_icmp .eq 5, 3, [3]), (.iconst (-1), 1, []), (.ireturn, 1, [])]),
  (72, [(.aload_n 0, 1, []), (.iconst 1, 1, []), (.invokevirtual 309, 3, [236, 2, 12]), (.aload_n 0, 1, []), (.invokevirtual 334, 3, [224, 1, 12]), (.aload_n 0, 1, []), (.iload_n 1, 1, []), (.iload_n 2, 1, []), (.iload_n 3, 1, []), (.iload 4, 2, []), (.iload 5, 2, []), (.invokestatic 217, 3, [200, 3]), (.invokevirtual 425, 3, [284, 4, 12]), (.iconst (-1), 1, []), (.istore 8, 2, []), (.iconst 0, 1, []), (.istore 9, 2, []), (.nop, 0, [4])]),
  (101, [(.iload 9, 2, []), (.iconst 1, 1, []), (.aload_n 0, 1, []), (.getfield 202, 3, [12, 26, 0]), (.ishl, 1, []), (.if_icmp .ge 60, 3, [8]), (.iload 9, 2, []), (.iload_n 1, 1, []), (.ishr, 1, []), (.iconst 1, 1, []), (.iand, 1, []), (.ifCond .ne 45, 3, [7]), (.iload 9, 2, []), (.invokestatic 358, 3, [316, 1]), (.iconst 3, 1, []), (.if_icmp .gt 36, 3, [7]), (.iload 9, 2, []), (.iload 8, 2, []), (.invokestatic 363, 3, [255, 2]), (.ifCond .eq 26, 3, [7]), (.aload_n 0, 1, []), (.iload_n 1, 1, []), (.iload 9, 2, []), (.invokevirtual 428, 3, [282, 3, 12]), (.ifCond .eq 8, 3, [5]), (.iload 9, 2, []), (.goto 5, 3, [6])]),
  (155, [(.iload 8, 2, []), (.nop, 0, [6])]),
  (157, [(.istore 8, 2, []), (.aload_n 0, 1, []), (.invokevirtual 343, 3, [226, 1, 12]), (.nop, 0, [7])]),
  (163, [(.iinc 9 1, 3, []), (.goto (-65), 3, [4])]),
  (169, [(.iload 8, 2, []), (.iconst (-1), 1, []), (.if_icmp .ne 13, 3, [9]), (.aload_n 0, 1, []), (.iload_n 1, 1, []), (.iload_n 2, 1, []), (.iload 6, 2, []), (.invokevirtual 425, 3, [284, 4, 12]), (.iconst (-1), 1, []), (.ireturn, 1, [])]),
  (185, [(.aload_n 0, 1, []), (.iload_n 1, 1, []), (.iload 8, 2, []), (.invokevirtual 428, 3, [282, 3, 12]), (.pop, 1, []), (.iload 8, 2, []), (.ireturn, 1, [])])]
abbrev M_X12_late : Md := (285, 12, 10, (some .int), P_X12_late)
theorem ok_X12_late : k_okM M_X12_late := by unfold k_okM; decide +kernel
def P_X12_find : CB := [(0, [(.iload_n 1, 1, []), (.istore_n 2, 1, []), (.nop, 0, [1])]),
  (2, [(.aload_n 0, 1, []), (.getfield 116, 3, [12, 49, 1]), (.iload_n 2, 1, []), (.iaload, 1, []), (.iload_n 2, 1, []), (.if_icmp .eq 13, 3, [2]), (.aload_n 0, 1, []), (.getfield 116, 3, [12, 49, 1]), (.iload_n 2, 1, []), (.iaload, 1, []), (.istore_n 2, 1, []), (.goto (-17), 3, [1])]),
  (22, [(.iload_n 2, 1, []), (.ireturn, 1, [])])]
abbrev M_X12_find : Md := (286, 12, 3, (some .int), P_X12_find)
theorem ok_X12_find : k_okM M_X12_find := by unfold k_okM; decide +kernel
def P_X12_unite : CB := [(0, [(.aload_n 0, 1, []), (.getfield 116, 3, [12, 49, 1]), (.aload_n 0, 1, []), (.iload_n 1, 1, []), (.invokevirtual 431, 3, [286, 2, 12]), (.aload_n 0, 1, []), (.iload_n 2, 1, []), (.invokevirtual 431, 3, [286, 2, 12]), (.iastore, 1, []), (.return_, 1, [])])]
abbrev M_X12_unite : Md := (287, 12, 3, none, P_X12_unite)
theorem ok_X12_unite : k_okM M_X12_unite := by unfold k_okM; decide +kernel
def P_X12_uniteAll : CB := [(0, [(.iconst 0, 1, []), (.istore_n 1, 1, []), (.nop, 0, [1])]),
  (2, [(.iload_n 1, 1, []), (.sipush 2592, 3, []), (.if_icmp .ge 16, 3, [2]), (.aload_n 0, 1, []), (.getfield 116, 3, [12, 49, 1]), (.iload_n 1, 1, []), (.iload_n 1, 1, []), (.iastore, 1, []), (.iinc 1 1, 3, []), (.goto (-17), 3, [1])]),
  (22, [(.iconst 0, 1, []), (.istore_n 1, 1, []), (.nop, 0, [3])]),
  (24, [(.iload_n 1, 1, []), (.aload_n 0, 1, []), (.getfield 202, 3, [12, 26, 0]), (.if_icmp .ge 189, 3, [13]), (.iconst 0, 1, []), (.istore_n 2, 1, []), (.nop, 0, [4])]),
  (34, [(.iload_n 2, 1, []), (.aload_n 0, 1, []), (.getfield 49, 3, [12, 19, 1]), (.iload_n 1, 1, []), (.iaload, 1, []), (.if_icmp .ge 49, 3, [5]), (.aload_n 0, 1, []), (.sipush 324, 3, []), (.iload_n 1, 1, []), (.imul, 1, []), (.aload_n 0, 1, []), (.getfield 52, 3, [12, 20, 1]), (.sipush 1200, 3, []), (.iload_n 1, 1, []), (.imul, 1, []), (.iload_n 2, 1, []), (.iadd, 1, []), (.iaload, 1, []), (.iadd, 1, []), (.sipush 324, 3, []), (.iload_n 1, 1, []), (.imul, 1, []), (.aload_n 0, 1, []), (.getfield 55, 3, [12, 21, 1]), (.sipush 1200, 3, []), (.iload_n 1, 1, []), (.imul, 1, []), (.iload_n 2, 1, []), (.iadd, 1, []), (.iaload, 1, []), (.iadd, 1, []), (.invokevirtual 434, 3, [287, 3, 12]), (.iinc 2 1, 3, []), (.goto (-53), 3, [4])]),
  (90, [(.iconst 0, 1, []), (.istore_n 2, 1, []), (.nop, 0, [6])]),
  (92, [(.iload_n 2, 1, []), (.aload_n 0, 1, []), (.getfield 58, 3, [12, 22, 1]), (.iload_n 1, 1, []), (.iaload, 1, []), (.if_icmp .ge 49, 3, [7]), (.aload_n 0, 1, []), (.sipush 324, 3, []), (.iload_n 1, 1, []), (.imul, 1, []), (.aload_n 0, 1, []), (.getfield 61, 3, [12, 23, 1]), (.sipush 2400, 3, []), (.iload_n 1, 1, []), (.imul, 1, []), (.iload_n 2, 1, []), (.iadd, 1, []), (.iaload, 1, []), (.iadd, 1, []), (.sipush 324, 3, []), (.iload_n 1, 1, []), (.imul, 1, []), (.aload_n 0, 1, []), (.getfield 64, 3, [12, 24, 1]), (.sipush 2400, 3, []), (.iload_n 1, 1, []), (.imul, 1, []), (.iload_n 2, 1, []), (.iadd, 1, []), (.iaload, 1, []), (.iadd, 1, []), (.invokevirtual 434, 3, [287, 3, 12]), (.iinc 2 1, 3, []), (.goto (-53), 3, [6])]),
  (148, [(.iconst 0, 1, []), (.istore_n 2, 1, []), (.nop, 0, [8])]),
  (150, [(.iload_n 2, 1, []), (.iload_n 1, 1, []), (.if_icmp .ge 60, 3, [12]), (.iconst 0, 1, []), (.istore_n 3, 1, []), (.nop, 0, [9])]),
  (157, [(.iload_n 3, 1, []), (.sipush 324, 3, []), (.if_icmp .ge 45, 3, [11]), (.aload_n 0, 1, []), (.iload_n 1, 1, []), (.iload_n 3, 1, []), (.invokevirtual 236, 3, [213, 3, 12]), (.ifCond .eq 30, 3, [10]), (.aload_n 0, 1, []), (.iload_n 2, 1, []), (.iload_n 3, 1, []), (.invokevirtual 236, 3, [213, 3, 12]), (.ifCond .eq 21, 3, [10]), (.aload_n 0, 1, []), (.sipush 324, 3, []), (.iload_n 1, 1, []), (.imul, 1, []), (.iload_n 3, 1, []), (.iadd, 1, []), (.sipush 324, 3, []), (.iload_n 2, 1, []), (.imul, 1, []), (.iload_n 3, 1, []), (.iadd, 1, []), (.invokevirtual 434, 3, [287, 3, 12]), (.nop, 0, [10])]),
  (200, [(.iinc 3 1, 3, []), (.goto (-46), 3, [9])]),
  (206, [(.iinc 2 1, 3, []), (.goto (-59), 3, [8])]),
  (212, [(.iinc 1 1, 3, []), (.goto (-191), 3, [3])]),
  (218, [(.return_, 1, [])])]
abbrev M_X12_uniteAll : Md := (288, 12, 4, none, P_X12_uniteAll)
theorem ok_X12_uniteAll : k_okM M_X12_uniteAll := by unfold k_okM; decide +kernel
def P_X12_areShort : CB := [(0, [(.iconst 0, 1, []), (.istore_n 3, 1, []), (.nop, 0, [1])]),
  (2, [(.iload_n 3, 1, []), (.sipush 324, 3, []), (.if_icmp .ge 73, 3, [5]), (.iconst 0, 1, []), (.istore 4, 2, []), (.nop, 0, [2])]),
  (12, [(.iload 4, 2, []), (.sipush 324, 3, []), (.if_icmp .ge 56, 3, [4]), (.aload_n 0, 1, []), (.iload_n 1, 1, []), (.iload_n 3, 1, []), (.invokevirtual 236, 3, [213, 3, 12]), (.ifCond .eq 47, 3, [4]), (.aload_n 0, 1, []), (.iload_n 2, 1, []), (.iload 4, 2, []), (.invokevirtual 236, 3, [213, 3, 12]), (.ifCond .eq 31, 3, [3]), (.aload_n 0, 1, []), (.sipush 324, 3, []), (.iload_n 1, 1, []), (.imul, 1, []), (.iload_n 3, 1, []), (.iadd, 1, []), (.invokevirtual 431, 3, [286, 2, 12]), (.aload_n 0, 1, []), (.sipush 324, 3, []), (.iload_n 2, 1, []), (.imul, 1, []), (.iload 4, 2, []), (.iadd, 1, []), (.invokevirtual 431, 3, [286, 2, 12]), (.if_icmp .ne 5, 3, [3]), (.iconst 1, 1, []), (.ireturn, 1, [])]),
  (67, [(.iinc 4 1, 3, []), (.goto (-58), 3, [2])]),
  (73, [(.iinc 3 1, 3, []), (.goto (-74), 3, [1])]),
  (79, [(.iconst 0, 1, []), (.ireturn, 1, [])])]
abbrev M_X12_areShort : Md := (289, 12, 5, (some .boolean), P_X12_areShort)
theorem ok_X12_areShort : k_okM M_X12_areShort := by unfold k_okM; decide +kernel
def P_X12_netlist : CB := [(0, [(.iload_n 1, 1, []), (.iconst 0, 1, []), (.iconst 1, 1, []), (.invokestatic 175, 3, [179, 3]), (.ifCond .ne 5, 3, [1]), (.iconst (-1), 1, []), (.ireturn, 1, [])]),
  (11, [(.aload_n 0, 1, []), (.invokevirtual 437, 3, [288, 1, 12]), (.iconst 0, 1, []), (.istore_n 2, 1, []), (.iconst 0, 1, []), (.istore_n 3, 1, []), (.nop, 0, [2])]),
  (19, [(.iload_n 3, 1, []), (.aload_n 0, 1, []), (.getfield 202, 3, [12, 26, 0]), (.if_icmp .ge 160, 3, [15]), (.iconst 0, 1, []), (.istore 4, 2, []), (.nop, 0, [3])]),
  (30, [(.iload 4, 2, []), (.iload_n 3, 1, []), (.if_icmp .ge 31, 3, [6]), (.iload_n 1, 1, []), (.ifCond .ne 27, 3, [6]), (.iload_n 2, 1, []), (.aload_n 0, 1, []), (.iload_n 3, 1, []), (.iload 4, 2, []), (.invokevirtual 440, 3, [289, 3, 12]), (.ifCond .eq 7, 3, [4]), (.iconst 1, 1, []), (.goto 4, 3, [5])]),
  (55, [(.iconst 0, 1, []), (.nop, 0, [5])]),
  (56, [(.iadd, 1, []), (.istore_n 2, 1, []), (.iinc 4 1, 3, []), (.goto (-31), 3, [3])]),
  (64, [(.iconst 1, 1, []), (.istore 4, 2, []), (.nop, 0, [7])]),
  (67, [(.iload 4, 2, []), (.aload_n 0, 1, []), (.getfield 43, 3, [12, 17, 1]), (.iload_n 3, 1, []), (.iaload, 1, []), (.if_icmp .ge 103, 3, [14]), (.iload_n 1, 1, []), (.iconst 1, 1, []), (.if_icmp .ne 98, 3, [14]), (.iconst 1, 1, []), (.istore 5, 2, []), (.iconst 0, 1, []), (.istore 6, 2, []), (.nop, 0, [8])]),
  (89, [(.iload 6, 2, []), (.iload 4, 2, []), (.if_icmp .ge 66, 3, [11]), (.iload 5, 2, []), (.ifCond .eq 52, 3, [9]), (.aload_n 0, 1, []), (.sipush 324, 3, []), (.iload_n 3, 1, []), (.imul, 1, []), (.aload_n 0, 1, []), (.getfield 46, 3, [12, 18, 1]), (.iconst 4, 1, []), (.iload_n 3, 1, []), (.imul, 1, []), (.iload 4, 2, []), (.iadd, 1, []), (.iaload, 1, []), (.iadd, 1, []), (.invokevirtual 431, 3, [286, 2, 12]), (.aload_n 0, 1, []), (.sipush 324, 3, []), (.iload_n 3, 1, []), (.imul, 1, []), (.aload_n 0, 1, []), (.getfield 46, 3, [12, 18, 1]), (.iconst 4, 1, []), (.iload_n 3, 1, []), (.imul, 1, []), (.iload 6, 2, []), (.iadd, 1, []), (.iaload, 1, []), (.iadd, 1, []), (.invokevirtual 431, 3, [286, 2, 12]), (.if_icmp .eq 7, 3, [9]), (.iconst 1, 1, []), (.goto 4, 3, [10])]),
  (150, [(.iconst 0, 1, []), (.nop, 0, [10])]),
  (151, [(.istore 5, 2, []), (.iinc 6 1, 3, []), (.goto (-67), 3, [8])]),
  (159, [(.iload_n 2, 1, []), (.iload 5, 2, []), (.ifCond .eq 7, 3, [12]), (.iconst 1, 1, []), (.goto 4, 3, [13])]),
  (169, [(.iconst 0, 1, []), (.nop, 0, [13])]),
  (170, [(.iadd, 1, []), (.istore_n 2, 1, []), (.iinc 4 1, 3, []), (.goto (-108), 3, [7])]),
  (178, [(.iinc 3 1, 3, []), (.goto (-162), 3, [2])]),
  (184, [(.iload_n 2, 1, []), (.ireturn, 1, [])])]
abbrev M_X12_netlist : Md := (290, 12, 7, (some .int), P_X12_netlist)
theorem ok_X12_netlist : k_okM M_X12_netlist := by unfold k_okM; decide +kernel
def P_X12_isAlone : CB := [(0, [(.iconst 1, 1, []), (.istore_n 3, 1, []), (.iconst 0, 1, []), (.istore 4, 2, []), (.nop, 0, [1])]),
  (5, [(.iload 4, 2, []), (.aload_n 0, 1, []), (.getfield 202, 3, [12, 26, 0]), (.if_icmp .ge 86, 3, [9]), (.iload 4, 2, []), (.iload_n 1, 1, []), (.if_icmp .eq 74, 3, [8]), (.iload_n 3, 1, []), (.ifCond .eq 17, 3, [2]), (.aload_n 0, 1, []), (.iload 4, 2, []), (.iload_n 2, 1, []), (.invokevirtual 236, 3, [213, 3, 12]), (.ifCond .ne 7, 3, [2]), (.iconst 1, 1, []), (.goto 4, 3, [3])]),
  (38, [(.iconst 0, 1, []), (.nop, 0, [3])]),
  (39, [(.istore_n 3, 1, []), (.iconst 0, 1, []), (.istore 5, 2, []), (.nop, 0, [4])]),
  (43, [(.iload 5, 2, []), (.iconst 4, 1, []), (.if_icmp .ge 45, 3, [8]), (.aload_n 0, 1, []), (.iload_n 2, 1, []), (.iload 5, 2, []), (.invokevirtual 229, 3, [204, 3, 12]), (.istore 6, 2, []), (.iload_n 3, 1, []), (.ifCond .eq 24, 3, [6]), (.iload 6, 2, []), (.iconst (-1), 1, []), (.if_icmp .eq 14, 3, [5]), (.aload_n 0, 1, []), (.iload 4, 2, []), (.iload 6, 2, []), (.invokevirtual 236, 3, [213, 3, 12]), (.ifCond .ne 7, 3, [6]), (.nop, 0, [5])]),
  (79, [(.iconst 1, 1, []), (.goto 4, 3, [7])]),
  (83, [(.iconst 0, 1, []), (.nop, 0, [7])]),
  (84, [(.istore_n 3, 1, []), (.iinc 5 1, 3, []), (.goto (-45), 3, [4])]),
  (91, [(.iinc 4 1, 3, []), (.goto (-89), 3, [1])]),
  (97, [(.iload_n 3, 1, []), (.ireturn, 1, [])])]
abbrev M_X12_isAlone : Md := (291, 12, 7, (some .boolean), P_X12_isAlone)
theorem ok_X12_isAlone : k_okM M_X12_isAlone := by unfold k_okM; decide +kernel
def P_X12_test : CB := [(0, [(.iload_n 1, 1, []), (.iconst 0, 1, []), (.aload_n 0, 1, []), (.getfield 142, 3, [12, 3, 0]), (.iconst 1, 1, []), (.isub, 1, []), (.invokestatic 175, 3, [179, 3]), (.ifCond .ne 5, 3, [1]), (.iconst (-1), 1, []), (.ireturn, 1, [])]),
  (16, [(.iconst 0, 1, []), (.istore_n 2, 1, []), (.iconst 0, 1, []), (.istore_n 3, 1, []), (.nop, 0, [2])]),
  (20, [(.iload_n 3, 1, []), (.aload_n 0, 1, []), (.getfield 202, 3, [12, 26, 0]), (.if_icmp .ge 74, 3, [7]), (.iconst 0, 1, []), (.istore 4, 2, []), (.nop, 0, [3])]),
  (31, [(.iload 4, 2, []), (.bipush 81, 2, []), (.if_icmp .ge 58, 3, [6]), (.bipush 81, 2, []), (.iload_n 1, 1, []), (.imul, 1, []), (.iload 4, 2, []), (.iadd, 1, []), (.istore 5, 2, []), (.iload_n 2, 1, []), (.aload_n 0, 1, []), (.iload_n 3, 1, []), (.iload 5, 2, []), (.invokevirtual 236, 3, [213, 3, 12]), (.ifCond .eq 29, 3, [4]), (.aload_n 0, 1, []), (.getfield 67, 3, [12, 25, 1]), (.iload 5, 2, []), (.baload, 1, []), (.ifCond .ne 19, 3, [4]), (.aload_n 0, 1, []), (.iload_n 3, 1, []), (.iload 5, 2, []), (.invokevirtual 443, 3, [291, 3, 12]), (.ifCond .eq 9, 3, [4]), (.iconst 1, 1, []), (.iload_n 3, 1, []), (.ishl, 1, []), (.goto 4, 3, [5])]),
  (84, [(.iconst 0, 1, []), (.nop, 0, [5])]),
  (85, [(.ior, 1, []), (.istore_n 2, 1, []), (.iinc 4 1, 3, []), (.goto (-59), 3, [3])]),
  (93, [(.iinc 3 1, 3, []), (.goto (-76), 3, [2])]),
  (99, [(.iload_n 2, 1, []), (.ireturn, 1, [])])]
abbrev M_X12_test : Md := (292, 12, 6, (some .int), P_X12_test)
theorem ok_X12_test : k_okM M_X12_test := by unfold k_okM; decide +kernel
def P_X12_slow : CB := [(0, [(.iload_n 1, 1, []), (.iconst (-1), 1, []), (.if_icmp .eq 17, 3, [1]), (.iload_n 1, 1, []), (.iconst 0, 1, []), (.aload_n 0, 1, []), (.getfield 142, 3, [12, 3, 0]), (.iconst 1, 1, []), (.isub, 1, []), (.invokestatic 175, 3, [179, 3]), (.ifCond .eq 13, 3, [2]), (.nop, 0, [1])]),
  (19, [(.iload_n 2, 1, []), (.iconst 0, 1, []), (.bipush 99, 2, []), (.invokestatic 175, 3, [179, 3]), (.ifCond .ne 5, 3, [3]), (.nop, 0, [2])]),
  (29, [(.iconst 0, 1, []), (.ireturn, 1, [])]),
  (31, [(.aload_n 0, 1, []), (.getfield 119, 3, [12, 50, 1]), (.iload_n 1, 1, []), (.iconst (-1), 1, []), (.if_icmp .ne 7, 3, [4]), (.iconst 4, 1, []), (.goto 4, 3, [5])]),
  (44, [(.iload_n 1, 1, []), (.nop, 0, [5])]),
  (45, [(.iload_n 2, 1, []), (.iastore, 1, []), (.iconst 1, 1, []), (.ireturn, 1, [])])]
abbrev M_X12_slow : Md := (293, 12, 3, (some .boolean), P_X12_slow)
theorem ok_X12_slow : k_okM M_X12_slow := by unfold k_okM; decide +kernel
def P_X12_delayed : CB := [(0, [(.aload_n 0, 1, []), (.getfield 119, 3, [12, 50, 1]), (.iload_n 1, 1, []), (.invokestatic 211, 3, [203, 1]), (.iload_n 2, 1, []), (.invokestatic 211, 3, [203, 1]), (.if_icmp .ne 10, 3, [1]), (.iload_n 1, 1, []), (.invokestatic 211, 3, [203, 1]), (.goto 4, 3, [2])]),
  (22, [(.iconst 4, 1, []), (.nop, 0, [2])]),
  (23, [(.iaload, 1, []), (.ireturn, 1, [])])]
abbrev M_X12_delayed : Md := (294, 12, 3, (some .int), P_X12_delayed)
theorem ok_X12_delayed : k_okM M_X12_delayed := by unfold k_okM; decide +kernel
