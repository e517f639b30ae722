/-! code as data (written by wip/whole/gencode.py) -/
def P_X12_paint : CB := [(0, [(.iconst 0, 1, []), (.istore_n 2, 1, []), (.nop, 0, [1])]),
  (2, [(.iload_n 2, 1, []), (.sipush 324, 3, []), (.if_icmp .ge 25, 3, [2]), (.aload_n 0, 1, []), (.getfield 71, 3, [12, 27, 1]), (.sipush 324, 3, []), (.iload_n 1, 1, []), (.imul, 1, []), (.iload_n 2, 1, []), (.iadd, 1, []), (.dup2, 1, []), (.iaload, 1, []), (.iconst 5, 1, []), (.iand, 1, []), (.iastore, 1, []), (.iinc 2 1, 3, []), (.goto (-26), 3, [1])]),
  (31, [(.iconst 0, 1, []), (.istore_n 2, 1, []), (.nop, 0, [3])]),
  (33, [(.iload_n 2, 1, []), (.aload_n 0, 1, []), (.getfield 58, 3, [12, 22, 1]), (.iload_n 1, 1, []), (.iaload, 1, []), (.if_icmp .ge 63, 3, [4]), (.aload_n 0, 1, []), (.getfield 71, 3, [12, 27, 1]), (.sipush 324, 3, []), (.iload_n 1, 1, []), (.imul, 1, []), (.aload_n 0, 1, []), (.getfield 61, 3, [12, 23, 1]), (.sipush 2400, 3, []), (.iload_n 1, 1, []), (.imul, 1, []), (.iload_n 2, 1, []), (.iadd, 1, []), (.iaload, 1, []), (.iadd, 1, []), (.dup2, 1, []), (.iaload, 1, []), (.iconst 2, 1, []), (.ior, 1, []), (.iastore, 1, []), (.aload_n 0, 1, []), (.getfield 71, 3, [12, 27, 1]), (.sipush 324, 3, []), (.iload_n 1, 1, []), (.imul, 1, []), (.aload_n 0, 1, []), (.getfield 64, 3, [12, 24, 1]), (.sipush 2400, 3, []), (.iload_n 1, 1, []), (.imul, 1, []), (.iload_n 2, 1, []), (.iadd, 1, []), (.iaload, 1, []), (.iadd, 1, []), (.dup2, 1, []), (.iaload, 1, []), (.iconst 2, 1, []), (.ior, 1, []), (.iastore, 1, []), (.iinc 2 1, 3, []), (.goto (-67), 3, [3])]),
  (103, [(.return_, 1, [])])]
abbrev M_X12_paint : Md := (220, 12, 3, none, P_X12_paint)
theorem ok_X12_paint : k_okM M_X12_paint := by unfold k_okM; decide +kernel
def P_X12_takeOff : CB := [(0, [(.aload_n 0, 1, []), (.aload_n 0, 1, []), (.getfield 58, 3, [12, 22, 1]), (.iload_n 1, 1, []), (.iaload, 1, []), (.putfield 263, 3, [12, 33, 0]), (.iconst 0, 1, []), (.istore_n 2, 1, []), (.nop, 0, [1])]),
  (12, [(.iload_n 2, 1, []), (.aload_n 0, 1, []), (.getfield 263, 3, [12, 33, 0]), (.if_icmp .ge 45, 3, [2]), (.aload_n 0, 1, []), (.getfield 74, 3, [12, 31, 1]), (.iload_n 2, 1, []), (.aload_n 0, 1, []), (.getfield 61, 3, [12, 23, 1]), (.sipush 2400, 3, []), (.iload_n 1, 1, []), (.imul, 1, []), (.iload_n 2, 1, []), (.iadd, 1, []), (.iaload, 1, []), (.iastore, 1, []), (.aload_n 0, 1, []), (.getfield 77, 3, [12, 32, 1]), (.iload_n 2, 1, []), (.aload_n 0, 1, []), (.getfield 64, 3, [12, 24, 1]), (.sipush 2400, 3, []), (.iload_n 1, 1, []), (.imul, 1, []), (.iload_n 2, 1, []), (.iadd, 1, []), (.iaload, 1, []), (.iastore, 1, []), (.iinc 2 1, 3, []), (.goto (-47), 3, [1])]),
  (62, [(.aload_n 0, 1, []), (.getfield 58, 3, [12, 22, 1]), (.iload_n 1, 1, []), (.iconst 0, 1, []), (.iastore, 1, []), (.aload_n 0, 1, []), (.iload_n 1, 1, []), (.invokevirtual 266, 3, [220, 2, 12]), (.return_, 1, [])])]
abbrev M_X12_takeOff : Md := (221, 12, 3, none, P_X12_takeOff)
theorem ok_X12_takeOff : k_okM M_X12_takeOff := by unfold k_okM; decide +kernel
def P_X12_putBack : CB := [(0, [(.aload_n 0, 1, []), (.getfield 58, 3, [12, 22, 1]), (.iload_n 1, 1, []), (.aload_n 0, 1, []), (.getfield 263, 3, [12, 33, 0]), (.iastore, 1, []), (.iconst 0, 1, []), (.istore_n 2, 1, []), (.nop, 0, [1])]),
  (12, [(.iload_n 2, 1, []), (.aload_n 0, 1, []), (.getfield 263, 3, [12, 33, 0]), (.if_icmp .ge 45, 3, [2]), (.aload_n 0, 1, []), (.getfield 61, 3, [12, 23, 1]), (.sipush 2400, 3, []), (.iload_n 1, 1, []), (.imul, 1, []), (.iload_n 2, 1, []), (.iadd, 1, []), (.aload_n 0, 1, []), (.getfield 74, 3, [12, 31, 1]), (.iload_n 2, 1, []), (.iaload, 1, []), (.iastore, 1, []), (.aload_n 0, 1, []), (.getfield 64, 3, [12, 24, 1]), (.sipush 2400, 3, []), (.iload_n 1, 1, []), (.imul, 1, []), (.iload_n 2, 1, []), (.iadd, 1, []), (.aload_n 0, 1, []), (.getfield 77, 3, [12, 32, 1]), (.iload_n 2, 1, []), (.iaload, 1, []), (.iastore, 1, []), (.iinc 2 1, 3, []), (.goto (-47), 3, [1])]),
  (62, [(.aload_n 0, 1, []), (.iload_n 1, 1, []), (.invokevirtual 266, 3, [220, 2, 12]), (.return_, 1, [])])]
abbrev M_X12_putBack : Md := (222, 12, 3, none, P_X12_putBack)
theorem ok_X12_putBack : k_okM M_X12_putBack := by unfold k_okM; decide +kernel
def P_X12_addTrace : CB := [(0, [(.aload_n 0, 1, []), (.getfield 61, 3, [12, 23, 1]), (.sipush 2400, 3, []), (.iload_n 1, 1, []), (.imul, 1, []), (.aload_n 0, 1, []), (.getfield 58, 3, [12, 22, 1]), (.iload_n 1, 1, []), (.iaload, 1, []), (.iadd, 1, []), (.iload_n 2, 1, []), (.iastore, 1, []), (.aload_n 0, 1, []), (.getfield 64, 3, [12, 24, 1]), (.sipush 2400, 3, []), (.iload_n 1, 1, []), (.imul, 1, []), (.aload_n 0, 1, []), (.getfield 58, 3, [12, 22, 1]), (.iload_n 1, 1, []), (.iaload, 1, []), (.iadd, 1, []), (.iload_n 3, 1, []), (.iastore, 1, []), (.aload_n 0, 1, []), (.getfield 58, 3, [12, 22, 1]), (.iload_n 1, 1, []), (.dup2, 1, []), (.iaload, 1, []), (.iconst 1, 1, []), (.iadd, 1, []), (.iastore, 1, []), (.aload_n 0, 1, []), (.getfield 71, 3, [12, 27, 1]), (.sipush 324, 3, []), (.iload_n 1, 1, []), (.imul, 1, []), (.iload_n 2, 1, []), (.iadd, 1, []), (.dup2, 1, []), (.iaload, 1, []), (.iconst 2, 1, []), (.ior, 1, []), (.iastore, 1, []), (.aload_n 0, 1, []), (.getfield 71, 3, [12, 27, 1]), (.sipush 324, 3, []), (.iload_n 1, 1, []), (.imul, 1, []), (.iload_n 3, 1, []), (.iadd, 1, []), (.dup2, 1, []), (.iaload, 1, []), (.iconst 2, 1, []), (.ior, 1, []), (.iastore, 1, []), (.return_, 1, [])])]
abbrev M_X12_addTrace : Md := (223, 12, 4, none, P_X12_addTrace)
theorem ok_X12_addTrace : k_okM M_X12_addTrace := by unfold k_okM; decide +kernel
def P_X12_takeAllOff : CB := [(0, [(.iconst 0, 1, []), (.istore_n 1, 1, []), (.nop, 0, [1])]),
  (2, [(.iload_n 1, 1, []), (.aload_n 0, 1, []), (.getfield 202, 3, [12, 26, 0]), (.if_icmp .ge 87, 3, [4]), (.aload_n 0, 1, []), (.getfield 86, 3, [12, 36, 1]), (.iload_n 1, 1, []), (.aload_n 0, 1, []), (.getfield 58, 3, [12, 22, 1]), (.iload_n 1, 1, []), (.iaload, 1, []), (.iastore, 1, []), (.iconst 0, 1, []), (.istore_n 2, 1, []), (.nop, 0, [2])]),
  (24, [(.iload_n 2, 1, []), (.aload_n 0, 1, []), (.getfield 58, 3, [12, 22, 1]), (.iload_n 1, 1, []), (.iaload, 1, []), (.if_icmp .ge 57, 3, [3]), (.aload_n 0, 1, []), (.getfield 80, 3, [12, 34, 1]), (.sipush 2400, 3, []), (.iload_n 1, 1, []), (.imul, 1, []), (.iload_n 2, 1, []), (.iadd, 1, []), (.aload_n 0, 1, []), (.getfield 61, 3, [12, 23, 1]), (.sipush 2400, 3, []), (.iload_n 1, 1, []), (.imul, 1, []), (.iload_n 2, 1, []), (.iadd, 1, []), (.iaload, 1, []), (.iastore, 1, []), (.aload_n 0, 1, []), (.getfield 83, 3, [12, 35, 1]), (.sipush 2400, 3, []), (.iload_n 1, 1, []), (.imul, 1, []), (.iload_n 2, 1, []), (.iadd, 1, []), (.aload_n 0, 1, []), (.getfield 64, 3, [12, 24, 1]), (.sipush 2400, 3, []), (.iload_n 1, 1, []), (.imul, 1, []), (.iload_n 2, 1, []), (.iadd, 1, []), (.iaload, 1, []), (.iastore, 1, []), (.iinc 2 1, 3, []), (.goto (-61), 3, [2])]),
  (88, [(.iinc 1 1, 3, []), (.goto (-89), 3, [1])]),
  (94, [(.return_, 1, [])])]
abbrev M_X12_takeAllOff : Md := (224, 12, 3, none, P_X12_takeAllOff)
theorem ok_X12_takeAllOff : k_okM M_X12_takeAllOff := by unfold k_okM; decide +kernel
def P_X12_ripAll : CB := [(0, [(.iconst 0, 1, []), (.istore_n 1, 1, []), (.nop, 0, [1])]),
  (2, [(.iload_n 1, 1, []), (.aload_n 0, 1, []), (.getfield 202, 3, [12, 26, 0]), (.if_icmp .ge 21, 3, [2]), (.aload_n 0, 1, []), (.getfield 58, 3, [12, 22, 1]), (.iload_n 1, 1, []), (.iconst 0, 1, []), (.iastore, 1, []), (.aload_n 0, 1, []), (.iload_n 1, 1, []), (.invokevirtual 266, 3, [220, 2, 12]), (.iinc 1 1, 3, []), (.goto (-23), 3, [1])]),
  (28, [(.return_, 1, [])])]
abbrev M_X12_ripAll : Md := (225, 12, 2, none, P_X12_ripAll)
theorem ok_X12_ripAll : k_okM M_X12_ripAll := by unfold k_okM; decide +kernel
def P_X12_putAllBack : CB := [(0, [(.iconst 0, 1, []), (.istore_n 1, 1, []), (.nop, 0, [1])]),
  (2, [(.iload_n 1, 1, []), (.aload_n 0, 1, []), (.getfield 202, 3, [12, 26, 0]), (.if_icmp .ge 92, 3, [4]), (.aload_n 0, 1, []), (.getfield 58, 3, [12, 22, 1]), (.iload_n 1, 1, []), (.aload_n 0, 1, []), (.getfield 86, 3, [12, 36, 1]), (.iload_n 1, 1, []), (.iaload, 1, []), (.iastore, 1, []), (.iconst 0, 1, []), (.istore_n 2, 1, []), (.nop, 0, [2])]),
  (24, [(.iload_n 2, 1, []), (.aload_n 0, 1, []), (.getfield 58, 3, [12, 22, 1]), (.iload_n 1, 1, []), (.iaload, 1, []), (.if_icmp .ge 57, 3, [3]), (.aload_n 0, 1, []), (.getfield 61, 3, [12, 23, 1]), (.sipush 2400, 3, []), (.iload_n 1, 1, []), (.imul, 1, []), (.iload_n 2, 1, []), (.iadd, 1, []), (.aload_n 0, 1, []), (.getfield 80, 3, [12, 34, 1]), (.sipush 2400, 3, []), (.iload_n 1, 1, []), (.imul, 1, []), (.iload_n 2, 1, []), (.iadd, 1, []), (.iaload, 1, []), (.iastore, 1, []), (.aload_n 0, 1, []), (.getfield 64, 3, [12, 24, 1]), (.sipush 2400, 3, []), (.iload_n 1, 1, []), (.imul, 1, []), (.iload_n 2, 1, []), (.iadd, 1, []), (.aload_n 0, 1, []), (.getfield 83, 3, [12, 35, 1]), (.sipush 2400, 3, []), (.iload_n 1, 1, []), (.imul, 1, []), (.iload_n 2, 1, []), (.iadd, 1, []), (.iaload, 1, []), (.iastore, 1, []), (.iinc 2 1, 3, []), (.goto (-61), 3, [2])]),
  (88, [(.aload_n 0, 1, []), (.iload_n 1, 1, []), (.invokevirtual 266, 3, [220, 2, 12]), (.iinc 1 1, 3, []), (.goto (-94), 3, [1])]),
  (99, [(.return_, 1, [])])]
abbrev M_X12_putAllBack : Md := (226, 12, 3, none, P_X12_putAllBack)
theorem ok_X12_putAllBack : k_okM M_X12_putAllBack := by unfold k_okM; decide +kernel
def P_X12_joins : CB := [(0, [(.aload_n 0, 1, []), (.getfield 89, 3, [12, 37, 1]), (.iload_n 1, 1, []), (.baload, 1, []), (.aload_n 0, 1, []), (.getfield 89, 3, [12, 37, 1]), (.iload_n 2, 1, []), (.baload, 1, []), (.if_icmp .eq 7, 3, [1]), (.iconst 1, 1, []), (.goto 4, 3, [2])]),
  (19, [(.iconst 0, 1, []), (.nop, 0, [2])]),
  (20, [(.istore_n 3, 1, []), (.aload_n 0, 1, []), (.getfield 89, 3, [12, 37, 1]), (.iload_n 1, 1, []), (.aload_n 0, 1, []), (.getfield 89, 3, [12, 37, 1]), (.iload_n 1, 1, []), (.baload, 1, []), (.ifCond .ne 7, 3, [3]), (.iload_n 3, 1, []), (.ifCond .eq 7, 3, [4]), (.nop, 0, [3])]),
  (39, [(.iconst 1, 1, []), (.goto 4, 3, [5])]),
  (43, [(.iconst 0, 1, []), (.nop, 0, [5])]),
  (44, [(.bastore, 1, []), (.aload_n 0, 1, []), (.getfield 89, 3, [12, 37, 1]), (.iload_n 2, 1, []), (.aload_n 0, 1, []), (.getfield 89, 3, [12, 37, 1]), (.iload_n 2, 1, []), (.baload, 1, []), (.ifCond .ne 7, 3, [6]), (.iload_n 3, 1, []), (.ifCond .eq 7, 3, [7]), (.nop, 0, [6])]),
  (63, [(.iconst 1, 1, []), (.goto 4, 3, [8])]),
  (67, [(.iconst 0, 1, []), (.nop, 0, [8])]),
  (68, [(.bastore, 1, []), (.iload_n 3, 1, []), (.ireturn, 1, [])])]
abbrev M_X12_joins : Md := (227, 12, 4, (some .boolean), P_X12_joins)
theorem ok_X12_joins : k_okM M_X12_joins := by unfold k_okM; decide +kernel
def P_X12_join : CB := [(0, [(.iconst 0, 1, []), (.istore_n 3, 1, []), (.nop, 0, [1])]),
  (2, [(.iload_n 3, 1, []), (.sipush 324, 3, []), (.if_icmp .ge 25, 3, [4]), (.aload_n 0, 1, []), (.getfield 89, 3, [12, 37, 1]), (.iload_n 3, 1, []), (.iload_n 3, 1, []), (.iload_n 2, 1, []), (.if_icmp .ne 7, 3, [2]), (.iconst 1, 1, []), (.goto 4, 3, [3])]),
  (23, [(.iconst 0, 1, []), (.nop, 0, [3])]),
  (24, [(.bastore, 1, []), (.iinc 3 1, 3, []), (.goto (-26), 3, [1])]),
  (31, [(.iconst 1, 1, []), (.istore_n 3, 1, []), (.nop, 0, [5])]),
  (33, [(.iload_n 3, 1, []), (.ifCond .eq 134, 3, [16]), (.iconst 0, 1, []), (.istore_n 3, 1, []), (.iconst 0, 1, []), (.istore 4, 2, []), (.nop, 0, [6])]),
  (42, [(.iload 4, 2, []), (.aload_n 0, 1, []), (.getfield 49, 3, [12, 19, 1]), (.iload_n 1, 1, []), (.iaload, 1, []), (.if_icmp .ge 52, 3, [10]), (.aload_n 0, 1, []), (.aload_n 0, 1, []), (.getfield 52, 3, [12, 20, 1]), (.sipush 1200, 3, []), (.iload_n 1, 1, []), (.imul, 1, []), (.iload 4, 2, []), (.iadd, 1, []), (.iaload, 1, []), (.aload_n 0, 1, []), (.getfield 55, 3, [12, 21, 1]), (.sipush 1200, 3, []), (.iload_n 1, 1, []), (.imul, 1, []), (.iload 4, 2, []), (.iadd, 1, []), (.iaload, 1, []), (.invokevirtual 269, 3, [227, 3, 12]), (.ifCond .ne 7, 3, [7]), (.iload_n 3, 1, []), (.ifCond .eq 7, 3, [8]), (.nop, 0, [7])]),
  (90, [(.iconst 1, 1, []), (.goto 4, 3, [9])]),
  (94, [(.iconst 0, 1, []), (.nop, 0, [9])]),
  (95, [(.istore_n 3, 1, []), (.iinc 4 1, 3, []), (.goto (-57), 3, [6])]),
  (102, [(.iconst 0, 1, []), (.istore 4, 2, []), (.nop, 0, [11])]),
  (105, [(.iload 4, 2, []), (.aload_n 0, 1, []), (.getfield 58, 3, [12, 22, 1]), (.iload_n 1, 1, []), (.iaload, 1, []), (.if_icmp .ge 52, 3, [15]), (.aload_n 0, 1, []), (.aload_n 0, 1, []), (.getfield 61, 3, [12, 23, 1]), (.sipush 2400, 3, []), (.iload_n 1, 1, []), (.imul, 1, []), (.iload 4, 2, []), (.iadd, 1, []), (.iaload, 1, []), (.aload_n 0, 1, []), (.getfield 64, 3, [12, 24, 1]), (.sipush 2400, 3, []), (.iload_n 1, 1, []), (.imul, 1, []), (.iload 4, 2, []), (.iadd, 1, []), (.iaload, 1, []), (.invokevirtual 269, 3, [227, 3, 12]), (.ifCond .ne 7, 3, [12]), (.iload_n 3, 1, []), (.ifCond .eq 7, 3, [13]), (.nop, 0, [12])]),
  (153, [(.iconst 1, 1, []), (.goto 4, 3, [14])]),
  (157, [(.iconst 0, 1, []), (.nop, 0, [14])]),
  (158, [(.istore_n 3, 1, []), (.iinc 4 1, 3, []), (.goto (-57), 3, [11])]),
  (165, [(.goto (-132), 3, [5])]),
  (168, [(.return_, 1, [])])]
abbrev M_X12_join : Md := (228, 12, 5, none, P_X12_join)
theorem ok_X12_join : k_okM M_X12_join := by unfold k_okM; decide +kernel
def P_X12_costOf : CB := [(0, [(.aload_n 0, 1, []), (.getfield 37, 3, [12, 15, 1]), (.iload_n 1, 1, []), (.iaload, 1, []), (.istore 5, 2, []), (.iload_n 2, 1, []), (.iconst 3, 1, []), (.if_icmp .le 13, 3, [1]), (.aload_n 0, 1, []), (.getfield 25, 3, [12, 9, 1]), (.iload 5, 2, []), (.iaload, 1, []), (.goto 32, 3, [4])]),
  (23, [(.aload_n 0, 1, []), (.getfield 22, 3, [12, 8, 1]), (.iload 5, 2, []), (.iaload, 1, []), (.iload_n 3, 1, []), (.iconst 4, 1, []), (.if_icmp .ge 18, 3, [2]), (.iload_n 3, 1, []), (.iload_n 2, 1, []), (.if_icmp .eq 13, 3, [2]), (.aload_n 0, 1, []), (.getfield 28, 3, [12, 10, 1]), (.iload 5, 2, []), (.iaload, 1, []), (.goto 4, 3, [3])]),
  (50, [(.iconst 0, 1, []), (.nop, 0, [3])]),
  (51, [(.iadd, 1, []), (.nop, 0, [4])]),
  (52, [(.istore 6, 2, []), (.sipush 1000, 3, []), (.iload 6, 2, []), (.aload_n 0, 1, []), (.getfield 98, 3, [12, 40, 1]), (.iload 4, 2, []), (.iaload, 1, []), (.iadd, 1, []), (.imul, 1, []), (.iconst 1, 1, []), (.iadd, 1, []), (.ireturn, 1, [])])]
abbrev M_X12_costOf : Md := (229, 12, 7, (some .int), P_X12_costOf)
theorem ok_X12_costOf : k_okM M_X12_costOf := by unfold k_okM; decide +kernel
def P_X12_bestFrom : CB := [(0, [(.ldc_w 272, 3, [1000000000]), (.istore 4, 2, []), (.iconst 0, 1, []), (.istore 5, 2, []), (.nop, 0, [1])]),
  (8, [(.iload 5, 2, []), (.aload_n 0, 1, []), (.getfield 273, 3, [12, 41, 2]), (.ifCond .eq 8, 3, [2]), (.bipush 6, 2, []), (.goto 4, 3, [3])]),
  (22, [(.iconst 4, 1, []), (.nop, 0, [3])]),
  (23, [(.if_icmp .ge 96, 3, [7]), (.aload_n 0, 1, []), (.iload_n 2, 1, []), (.iload 5, 2, []), (.invokevirtual 229, 3, [204, 3, 12]), (.istore 6, 2, []), (.iload 5, 2, []), (.iconst 4, 1, []), (.if_icmp .ge 8, 3, [4]), (.iload 5, 2, []), (.goto 4, 3, [5])]),
  (46, [(.iload_n 3, 1, []), (.nop, 0, [5])]),
  (47, [(.istore 7, 2, []), (.iload 6, 2, []), (.iconst (-1), 1, []), (.if_icmp .eq 61, 3, [6]), (.aload_n 0, 1, []), (.getfield 95, 3, [12, 39, 1]), (.iload 6, 2, []), (.baload, 1, []), (.ifCond .eq 51, 3, [6]), (.aload_n 0, 1, []), (.getfield 92, 3, [12, 38, 1]), (.iconst 5, 1, []), (.iload 6, 2, []), (.imul, 1, []), (.iload 7, 2, []), (.iadd, 1, []), (.iaload, 1, []), (.ldc_w 272, 3, [1000000000]), (.if_icmp .ge 33, 3, [6]), (.iload 4, 2, []), (.aload_n 0, 1, []), (.iload_n 1, 1, []), (.iload 5, 2, []), (.iload_n 3, 1, []), (.iload 6, 2, []), (.invokevirtual 276, 3, [229, 5, 12]), (.aload_n 0, 1, []), (.getfield 92, 3, [12, 38, 1]), (.iconst 5, 1, []), (.iload 6, 2, []), (.imul, 1, []), (.iload 7, 2, []), (.iadd, 1, []), (.iaload, 1, []), (.iadd, 1, []), (.invokestatic 3, 3, [1]), (.istore 4, 2, []), (.nop, 0, [6])]),
  (113, [(.iinc 5 1, 3, []), (.goto (-108), 3, [1])]),
  (119, [(.iload 4, 2, []), (.ireturn, 1, [])])]
abbrev M_X12_bestFrom : Md := (230, 12, 8, (some .int), P_X12_bestFrom)
theorem ok_X12_bestFrom : k_okM M_X12_bestFrom := by unfold k_okM; decide +kernel
def P_X12_relax : CB := [(0, [(.iconst 0, 1, []), (.istore_n 3, 1, []), (.aload_n 0, 1, []), (.getfield 89, 3, [12, 37, 1]), (.iload_n 2, 1, []), (.baload, 1, []), (.ifCond .ne 12, 3, [1]), (.aload_n 0, 1, []), (.getfield 95, 3, [12, 39, 1]), (.iload_n 2, 1, []), (.baload, 1, []), (.ifCond .ne 5, 3, [2]), (.nop, 0, [1])]),
  (20, [(.iconst 0, 1, []), (.ireturn, 1, [])]),
  (22, [(.iconst 0, 1, []), (.istore 4, 2, []), (.nop, 0, [3])]),
  (25, [(.iload 4, 2, []), (.iconst 5, 1, []), (.if_icmp .ge 50, 3, [5]), (.aload_n 0, 1, []), (.iload_n 1, 1, []), (.iload_n 2, 1, []), (.iload 4, 2, []), (.invokevirtual 280, 3, [230, 4, 12]), (.istore 5, 2, []), (.iload 5, 2, []), (.aload_n 0, 1, []), (.getfield 92, 3, [12, 38, 1]), (.iconst 5, 1, []), (.iload_n 2, 1, []), (.imul, 1, []), (.iload 4, 2, []), (.iadd, 1, []), (.iaload, 1, []), (.if_icmp .ge 18, 3, [4]), (.aload_n 0, 1, []), (.getfield 92, 3, [12, 38, 1]), (.iconst 5, 1, []), (.iload_n 2, 1, []), (.imul, 1, []), (.iload 4, 2, []), (.iadd, 1, []), (.iload 5, 2, []), (.iastore, 1, []), (.iconst 1, 1, []), (.istore_n 3, 1, []), (.nop, 0, [4])]),
  (72, [(.iinc 4 1, 3, []), (.goto (-50), 3, [3])]),
  (78, [(.iload_n 3, 1, []), (.ireturn, 1, [])])]
abbrev M_X12_relax : Md := (231, 12, 6, (some .boolean), P_X12_relax)
theorem ok_X12_relax : k_okM M_X12_relax := by unfold k_okM; decide +kernel
