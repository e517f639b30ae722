/-! code as data (written by wip/whole/gencode.py) -/
def P_X12_plane : CB := [(0, [(.aload_n 0, 1, []), (.iload_n 1, 1, []), (.invokevirtual 220, 3, [198, 2, 12]), (.ifCond .eq 26, 3, [1]), (.iload_n 2, 1, []), (.iconst 0, 1, []), (.aload_n 0, 1, []), (.getfield 142, 3, [12, 3, 0]), (.iconst 1, 1, []), (.isub, 1, []), (.invokestatic 175, 3, [179, 3]), (.ifCond .eq 12, 3, [1]), (.iload_n 3, 1, []), (.iconst 0, 1, []), (.iconst 3, 1, []), (.invokestatic 175, 3, [179, 3]), (.ifCond .ne 5, 3, [2]), (.nop, 0, [1])]),
  (31, [(.iconst (-1), 1, []), (.ireturn, 1, [])]),
  (33, [(.aload_n 0, 1, []), (.iload_n 1, 1, []), (.iload_n 2, 1, []), (.invokevirtual 399, 3, [271, 3, 12]), (.aload_n 0, 1, []), (.iload_n 1, 1, []), (.iload_n 2, 1, []), (.iconst (-1), 1, []), (.iconst 1, 1, []), (.invokevirtual 402, 3, [272, 5, 12]), (.istore 4, 2, []), (.iload_n 3, 1, []), (.iconst 1, 1, []), (.if_icmp .ne 6, 3, [3]), (.iload 4, 2, []), (.ireturn, 1, [])]),
  (57, [(.iload_n 3, 1, []), (.iconst 2, 1, []), (.if_icmp .ne 12, 3, [4]), (.aload_n 0, 1, []), (.iload_n 1, 1, []), (.iload_n 2, 1, []), (.iconst (-1), 1, []), (.iconst 0, 1, []), (.invokevirtual 402, 3, [272, 5, 12]), (.ireturn, 1, [])]),
  (71, [(.iconst 0, 1, []), (.istore 5, 2, []), (.iconst 0, 1, []), (.istore 6, 2, []), (.nop, 0, [5])]),
  (77, [(.iload 6, 2, []), (.bipush 81, 2, []), (.if_icmp .ge 62, 3, [10]), (.aload_n 0, 1, []), (.getfield 110, 3, [12, 45, 1]), (.iload 6, 2, []), (.baload, 1, []), (.ifCond .eq 46, 3, [9]), (.iload 5, 2, []), (.iload_n 3, 1, []), (.ifCond .eq 32, 3, [6]), (.aload_n 0, 1, []), (.iload_n 1, 1, []), (.bipush 81, 2, []), (.iload_n 2, 1, []), (.imul, 1, []), (.iload 6, 2, []), (.iadd, 1, []), (.invokevirtual 236, 3, [213, 3, 12]), (.ifCond .ne 21, 3, [7]), (.aload_n 0, 1, []), (.iload_n 1, 1, []), (.iload_n 2, 1, []), (.iload 6, 2, []), (.iconst 1, 1, []), (.invokevirtual 402, 3, [272, 5, 12]), (.iload 4, 2, []), (.if_icmp .le 7, 3, [7]), (.nop, 0, [6])]),
  (129, [(.iconst 1, 1, []), (.goto 4, 3, [8])]),
  (133, [(.iconst 0, 1, []), (.nop, 0, [8])]),
  (134, [(.iadd, 1, []), (.istore 5, 2, []), (.nop, 0, [9])]),
  (137, [(.iinc 6 1, 3, []), (.goto (-63), 3, [5])]),
  (143, [(.iload 5, 2, []), (.ireturn, 1, [])])]
abbrev M_X12_plane : Md := (274, 12, 7, (some .int), P_X12_plane)
theorem ok_X12_plane : k_okM M_X12_plane := by unfold k_okM; decide +kernel
def P_X12_spokes : CB := [(0, [(.aload_n 0, 1, []), (.iload_n 1, 1, []), (.invokevirtual 220, 3, [198, 2, 12]), (.ifCond .eq 19, 3, [1]), (.iload_n 2, 1, []), (.iconst 0, 1, []), (.aload_n 0, 1, []), (.getfield 43, 3, [12, 17, 1]), (.iload_n 1, 1, []), (.iaload, 1, []), (.iconst 1, 1, []), (.isub, 1, []), (.invokestatic 175, 3, [179, 3]), (.ifCond .ne 5, 3, [2]), (.nop, 0, [1])]),
  (24, [(.iconst (-1), 1, []), (.ireturn, 1, [])]),
  (26, [(.aload_n 0, 1, []), (.getfield 46, 3, [12, 18, 1]), (.iconst 4, 1, []), (.iload_n 1, 1, []), (.imul, 1, []), (.iload_n 2, 1, []), (.iadd, 1, []), (.iaload, 1, []), (.istore_n 3, 1, []), (.aload_n 0, 1, []), (.iload_n 1, 1, []), (.iload_n 3, 1, []), (.invokestatic 211, 3, [203, 1]), (.invokevirtual 399, 3, [271, 3, 12]), (.iconst 0, 1, []), (.istore 4, 2, []), (.iconst 0, 1, []), (.istore 5, 2, []), (.nop, 0, [3])]),
  (52, [(.iload 5, 2, []), (.iconst 4, 1, []), (.if_icmp .ge 47, 3, [6]), (.aload_n 0, 1, []), (.iload_n 3, 1, []), (.iload 5, 2, []), (.invokevirtual 229, 3, [204, 3, 12]), (.istore 6, 2, []), (.iload 4, 2, []), (.iload 6, 2, []), (.iconst (-1), 1, []), (.if_icmp .eq 20, 3, [4]), (.aload_n 0, 1, []), (.getfield 110, 3, [12, 45, 1]), (.iload 6, 2, []), (.bipush 81, 2, []), (.irem, 1, []), (.baload, 1, []), (.ifCond .eq 7, 3, [4]), (.iconst 1, 1, []), (.goto 4, 3, [5])]),
  (92, [(.iconst 0, 1, []), (.nop, 0, [5])]),
  (93, [(.iadd, 1, []), (.istore 4, 2, []), (.iinc 5 1, 3, []), (.goto (-47), 3, [3])]),
  (102, [(.iload 4, 2, []), (.ireturn, 1, [])])]
abbrev M_X12_spokes : Md := (275, 12, 7, (some .int), P_X12_spokes)
theorem ok_X12_spokes : k_okM M_X12_spokes := by unfold k_okM; decide +kernel
def P_X12_back : CB := [(0, [(.aload_n 0, 1, []), (.iload_n 1, 1, []), (.invokevirtual 220, 3, [198, 2, 12]), (.ifCond .eq 30, 3, [1]), (.aload_n 0, 1, []), (.iload_n 2, 1, []), (.invokevirtual 220, 3, [198, 2, 12]), (.ifCond .eq 22, 3, [1]), (.iload_n 1, 1, []), (.iload_n 2, 1, []), (.if_icmp .eq 17, 3, [1]), (.iload_n 3, 1, []), (.iconst 0, 1, []), (.aload_n 0, 1, []), (.getfield 142, 3, [12, 3, 0]), (.iconst 1, 1, []), (.isub, 1, []), (.invokestatic 175, 3, [179, 3]), (.ifCond .ne 5, 3, [2]), (.nop, 0, [1])]),
  (35, [(.iconst (-1), 1, []), (.ireturn, 1, [])]),
  (37, [(.aload_n 0, 1, []), (.iload_n 2, 1, []), (.iload_n 3, 1, []), (.invokevirtual 399, 3, [271, 3, 12]), (.iconst 0, 1, []), (.istore 4, 2, []), (.iconst 0, 1, []), (.istore 5, 2, []), (.nop, 0, [3])]),
  (49, [(.iload 5, 2, []), (.sipush 324, 3, []), (.if_icmp .ge 63, 3, [7]), (.iload 5, 2, []), (.invokestatic 211, 3, [203, 1]), (.iload_n 3, 1, []), (.isub, 1, []), (.istore 6, 2, []), (.iload 4, 2, []), (.iload 6, 2, []), (.iconst 1, 1, []), (.if_icmp .eq 9, 3, [4]), (.iload 6, 2, []), (.iconst (-1), 1, []), (.if_icmp .ne 30, 3, [5]), (.nop, 0, [4])]),
  (80, [(.aload_n 0, 1, []), (.iload_n 1, 1, []), (.iload 5, 2, []), (.invokevirtual 236, 3, [213, 3, 12]), (.ifCond .eq 20, 3, [5]), (.aload_n 0, 1, []), (.getfield 110, 3, [12, 45, 1]), (.iload 5, 2, []), (.bipush 81, 2, []), (.irem, 1, []), (.baload, 1, []), (.ifCond .ne 7, 3, [5]), (.iconst 1, 1, []), (.goto 4, 3, [6])]),
  (107, [(.iconst 0, 1, []), (.nop, 0, [6])]),
  (108, [(.iadd, 1, []), (.istore 4, 2, []), (.iinc 5 1, 3, []), (.goto (-65), 3, [3])]),
  (117, [(.iload 4, 2, []), (.ireturn, 1, [])])]
abbrev M_X12_back : Md := (276, 12, 7, (some .int), P_X12_back)
theorem ok_X12_back : k_okM M_X12_back := by unfold k_okM; decide +kernel
def P_X12_strike : CB := [(0, [(.iload_n 2, 1, []), (.invokestatic 211, 3, [203, 1]), (.iload_n 3, 1, []), (.invokestatic 211, 3, [203, 1]), (.if_icmp .ne 4, 3, [1]), (.return_, 1, [])]),
  (12, [(.aload_n 0, 1, []), (.iload_n 2, 1, []), (.invokestatic 205, 3, [201, 1]), (.iload 4, 2, []), (.iadd, 1, []), (.iload_n 2, 1, []), (.invokestatic 208, 3, [202, 1]), (.iload 5, 2, []), (.iadd, 1, []), (.iconst 0, 1, []), (.invokevirtual 214, 3, [199, 4, 12]), (.ifCond .ne 14, 3, [2]), (.aload_n 0, 1, []), (.dup, 1, []), (.getfield 406, 3, [12, 48, 0]), (.iconst 1, 1, []), (.iadd, 1, []), (.putfield 406, 3, [12, 48, 0]), (.return_, 1, [])]),
  (45, [(.iload_n 2, 1, []), (.bipush 9, 2, []), (.iload 5, 2, []), (.imul, 1, []), (.iadd, 1, []), (.iload 4, 2, []), (.iadd, 1, []), (.istore 6, 2, []), (.iload_n 3, 1, []), (.bipush 9, 2, []), (.iload 5, 2, []), (.imul, 1, []), (.iadd, 1, []), (.iload 4, 2, []), (.iadd, 1, []), (.istore 7, 2, []), (.iconst 0, 1, []), (.istore 8, 2, []), (.iconst 0, 1, []), (.istore 9, 2, []), (.nop, 0, [3])]),
  (75, [(.iload 9, 2, []), (.aload_n 0, 1, []), (.getfield 202, 3, [12, 26, 0]), (.if_icmp .ge 49, 3, [7]), (.iload 8, 2, []), (.ifCond .ne 31, 3, [4]), (.iload 9, 2, []), (.iload_n 1, 1, []), (.if_icmp .eq 29, 3, [5]), (.aload_n 0, 1, []), (.iload 9, 2, []), (.iload 6, 2, []), (.invokevirtual 236, 3, [213, 3, 12]), (.ifCond .ne 14, 3, [4]), (.aload_n 0, 1, []), (.iload 9, 2, []), (.iload 7, 2, []), (.invokevirtual 236, 3, [213, 3, 12]), (.ifCond .eq 7, 3, [5]), (.nop, 0, [4])]),
  (117, [(.iconst 1, 1, []), (.goto 4, 3, [6])]),
  (121, [(.iconst 0, 1, []), (.nop, 0, [6])]),
  (122, [(.istore 8, 2, []), (.iinc 9 1, 3, []), (.goto (-52), 3, [3])]),
  (130, [(.aload_n 0, 1, []), (.dup, 1, []), (.getfield 409, 3, [12, 47, 0]), (.iload 8, 2, []), (.ifCond .eq 7, 3, [8]), (.iconst 1, 1, []), (.goto 4, 3, [9])]),
  (144, [(.iconst 0, 1, []), (.nop, 0, [9])]),
  (145, [(.iadd, 1, []), (.putfield 409, 3, [12, 47, 0]), (.aload_n 0, 1, []), (.dup, 1, []), (.getfield 406, 3, [12, 48, 0]), (.aload_n 0, 1, []), (.iload_n 1, 1, []), (.iload 6, 2, []), (.invokevirtual 236, 3, [213, 3, 12]), (.ifCond .eq 13, 3, [10]), (.aload_n 0, 1, []), (.iload_n 1, 1, []), (.iload 7, 2, []), (.invokevirtual 236, 3, [213, 3, 12]), (.ifCond .ne 7, 3, [11]), (.nop, 0, [10])]),
  (174, [(.iconst 1, 1, []), (.goto 4, 3, [12])]),
  (178, [(.iconst 0, 1, []), (.nop, 0, [12])]),
  (179, [(.iadd, 1, []), (.putfield 406, 3, [12, 48, 0]), (.return_, 1, [])])]
abbrev M_X12_strike : Md := (277, 12, 10, none, P_X12_strike)
theorem ok_X12_strike : k_okM M_X12_strike := by unfold k_okM; decide +kernel
def P_X12_isFirstThere : CB := [(0, [(.aload_n 0, 1, []), (.getfield 61, 3, [12, 23, 1]), (.sipush 2400, 3, []), (.iload_n 1, 1, []), (.imul, 1, []), (.iload_n 2, 1, []), (.iadd, 1, []), (.iaload, 1, []), (.aload_n 0, 1, []), (.getfield 64, 3, [12, 24, 1]), (.sipush 2400, 3, []), (.iload_n 1, 1, []), (.imul, 1, []), (.iload_n 2, 1, []), (.iadd, 1, []), (.iaload, 1, []), (.invokestatic 3, 3, [1]), (.istore_n 3, 1, []), (.aload_n 0, 1, []), (.getfield 61, 3, [12, 23, 1]), (.sipush 2400, 3, []), (.iload_n 1, 1, []), (.imul, 1, []), (.iload_n 2, 1, []), (.iadd, 1, []), (.iaload, 1, []), (.aload_n 0, 1, []), (.getfield 64, 3, [12, 24, 1]), (.sipush 2400, 3, []), (.iload_n 1, 1, []), (.imul, 1, []), (.iload_n 2, 1, []), (.iadd, 1, []), (.iaload, 1, []), (.invokestatic 9, 3, [0]), (.istore 4, 2, []), (.iconst 0, 1, []), (.istore 5, 2, []), (.nop, 0, [1])]),
  (60, [(.iload 5, 2, []), (.iload_n 2, 1, []), (.if_icmp .ge 64, 3, [3]), (.aload_n 0, 1, []), (.getfield 61, 3, [12, 23, 1]), (.sipush 2400, 3, []), (.iload_n 1, 1, []), (.imul, 1, []), (.iload 5, 2, []), (.iadd, 1, []), (.iaload, 1, []), (.istore 6, 2, []), (.aload_n 0, 1, []), (.getfield 64, 3, [12, 24, 1]), (.sipush 2400, 3, []), (.iload_n 1, 1, []), (.imul, 1, []), (.iload 5, 2, []), (.iadd, 1, []), (.iaload, 1, []), (.istore 7, 2, []), (.iload 6, 2, []), (.iload 7, 2, []), (.invokestatic 3, 3, [1]), (.iload_n 3, 1, []), (.if_icmp .ne 17, 3, [2]), (.iload 6, 2, []), (.iload 7, 2, []), (.invokestatic 9, 3, [0]), (.iload 4, 2, []), (.if_icmp .ne 5, 3, [2]), (.iconst 0, 1, []), (.ireturn, 1, [])]),
  (121, [(.iinc 5 1, 3, []), (.goto (-64), 3, [1])]),
  (127, [(.aload_n 0, 1, []), (.iload_n 1, 1, []), (.iload_n 3, 1, []), (.iload 4, 2, []), (.invokevirtual 226, 3, [209, 4, 12]), (.ifCond .ne 7, 3, [4]), (.iconst 1, 1, []), (.goto 4, 3, [5])]),
  (142, [(.iconst 0, 1, []), (.nop, 0, [5])]),
  (143, [(.ireturn, 1, [])])]
abbrev M_X12_isFirstThere : Md := (278, 12, 8, (some .boolean), P_X12_isFirstThere)
theorem ok_X12_isFirstThere : k_okM M_X12_isFirstThere := by unfold k_okM; decide +kernel
def P_X12_findWander : CB := [(0, [(.aload_n 0, 1, []), (.iconst 0, 1, []), (.putfield 409, 3, [12, 47, 0]), (.aload_n 0, 1, []), (.iconst 0, 1, []), (.putfield 406, 3, [12, 48, 0]), (.iconst 0, 1, []), (.istore_n 3, 1, []), (.nop, 0, [1])]),
  (12, [(.iload_n 3, 1, []), (.aload_n 0, 1, []), (.getfield 202, 3, [12, 26, 0]), (.if_icmp .ge 125, 3, [7]), (.iconst 0, 1, []), (.istore 4, 2, []), (.nop, 0, [2])]),
  (23, [(.iload 4, 2, []), (.aload_n 0, 1, []), (.getfield 49, 3, [12, 19, 1]), (.iload_n 3, 1, []), (.iaload, 1, []), (.if_icmp .ge 42, 3, [3]), (.aload_n 0, 1, []), (.iload_n 3, 1, []), (.aload_n 0, 1, []), (.getfield 52, 3, [12, 20, 1]), (.sipush 1200, 3, []), (.iload_n 3, 1, []), (.imul, 1, []), (.iload 4, 2, []), (.iadd, 1, []), (.iaload, 1, []), (.aload_n 0, 1, []), (.getfield 55, 3, [12, 21, 1]), (.sipush 1200, 3, []), (.iload_n 3, 1, []), (.imul, 1, []), (.iload 4, 2, []), (.iadd, 1, []), (.iaload, 1, []), (.iload_n 1, 1, []), (.iload_n 2, 1, []), (.invokevirtual 412, 3, [277, 6, 12]), (.iinc 4 1, 3, []), (.goto (-47), 3, [2])]),
  (73, [(.iconst 0, 1, []), (.istore 4, 2, []), (.nop, 0, [4])]),
  (76, [(.iload 4, 2, []), (.aload_n 0, 1, []), (.getfield 58, 3, [12, 22, 1]), (.iload_n 3, 1, []), (.iaload, 1, []), (.if_icmp .ge 52, 3, [6]), (.aload_n 0, 1, []), (.iload_n 3, 1, []), (.iload 4, 2, []), (.invokevirtual 416, 3, [278, 3, 12]), (.ifCond .eq 36, 3, [5]), (.aload_n 0, 1, []), (.iload_n 3, 1, []), (.aload_n 0, 1, []), (.getfield 61, 3, [12, 23, 1]), (.sipush 2400, 3, []), (.iload_n 3, 1, []), (.imul, 1, []), (.iload 4, 2, []), (.iadd, 1, []), (.iaload, 1, []), (.aload_n 0, 1, []), (.getfield 64, 3, [12, 24, 1]), (.sipush 2400, 3, []), (.iload_n 3, 1, []), (.imul, 1, []), (.iload 4, 2, []), (.iadd, 1, []), (.iaload, 1, []), (.iload_n 1, 1, []), (.iload_n 2, 1, []), (.invokevirtual 412, 3, [277, 6, 12]), (.nop, 0, [5])]),
  (130, [(.iinc 4 1, 3, []), (.goto (-57), 3, [4])]),
  (136, [(.iinc 3 1, 3, []), (.goto (-127), 3, [1])]),
  (142, [(.return_, 1, [])])]
abbrev M_X12_findWander : Md := (279, 12, 5, none, P_X12_findWander)
theorem ok_X12_findWander : k_okM M_X12_findWander := by unfold k_okM; decide +kernel
def P_X12_wander : CB := [(0, [(.iload_n 1, 1, []), (.bipush (-3), 2, []), (.iconst 3, 1, []), (.invokestatic 175, 3, [179, 3]), (.ifCond .eq 22, 3, [1]), (.iload_n 2, 1, []), (.bipush (-3), 2, []), (.iconst 3, 1, []), (.invokestatic 175, 3, [179, 3]), (.ifCond .eq 12, 3, [1]), (.iload_n 3, 1, []), (.iconst 0, 1, []), (.iconst 1, 1, []), (.invokestatic 175, 3, [179, 3]), (.ifCond .ne 5, 3, [2]), (.nop, 0, [1])]),
  (29, [(.iconst (-1), 1, []), (.ireturn, 1, [])]),
  (31, [(.aload_n 0, 1, []), (.iload_n 1, 1, []), (.iload_n 2, 1, []), (.invokevirtual 419, 3, [279, 3, 12]), (.iload_n 3, 1, []), (.ifCond .ne 10, 3, [3]), (.aload_n 0, 1, []), (.getfield 409, 3, [12, 47, 0]), (.goto 7, 3, [4])]),
  (48, [(.aload_n 0, 1, []), (.getfield 406, 3, [12, 48, 0]), (.nop, 0, [4])]),
  (52, [(.ireturn, 1, [])])]
abbrev M_X12_wander : Md := (280, 12, 4, (some .int), P_X12_wander)
theorem ok_X12_wander : k_okM M_X12_wander := by unfold k_okM; decide +kernel
def P_X12_worst : CB := [(0, [(.iload_n 1, 1, []), (.iconst 0, 1, []), (.iconst 3, 1, []), (.invokestatic 175, 3, [179, 3]), (.ifCond .eq 12, 3, [1]), (.iload_n 2, 1, []), (.iconst 0, 1, []), (.iconst 2, 1, []), (.invokestatic 175, 3, [179, 3]), (.ifCond .ne 7, 3, [2]), (.nop, 0, [1])]),
  (18, [(.sipush (-1000), 3, []), (.ireturn, 1, [])]),
  (22, [(.iconst 0, 1, []), (.istore_n 3, 1, []), (.iconst 0, 1, []), (.istore 4, 2, []), (.iconst (-1), 1, []), (.istore 5, 2, []), (.iload_n 1, 1, []), (.ineg, 1, []), (.istore 6, 2, []), (.nop, 0, [3])]),
  (34, [(.iload 6, 2, []), (.iload_n 1, 1, []), (.if_icmp .gt 65, 3, [7]), (.iload_n 1, 1, []), (.ineg, 1, []), (.istore 7, 2, []), (.nop, 0, [4])]),
  (44, [(.iload 7, 2, []), (.iload_n 1, 1, []), (.if_icmp .gt 49, 3, [6]), (.aload_n 0, 1, []), (.iload 6, 2, []), (.iload 7, 2, []), (.invokevirtual 419, 3, [279, 3, 12]), (.aload_n 0, 1, []), (.getfield 409, 3, [12, 47, 0]), (.aload_n 0, 1, []), (.getfield 406, 3, [12, 48, 0]), (.iadd, 1, []), (.iload 5, 2, []), (.if_icmp .le 21, 3, [5]), (.aload_n 0, 1, []), (.getfield 409, 3, [12, 47, 0]), (.aload_n 0, 1, []), (.getfield 406, 3, [12, 48, 0]), (.iadd, 1, []), (.istore 5, 2, []), (.iload 6, 2, []), (.istore_n 3, 1, []), (.iload 7, 2, []), (.istore 4, 2, []), (.nop, 0, [5])]),
  (90, [(.iinc 7 1, 3, []), (.goto (-49), 3, [4])]),
  (96, [(.iinc 6 1, 3, []), (.goto (-65), 3, [3])]),
  (102, [(.iload_n 2, 1, []), (.ifCond .ne 7, 3, [8]), (.iload_n 3, 1, []), (.goto 15, 3, [10])]),
  (110, [(.iload_n 2, 1, []), (.iconst 1, 1, []), (.if_icmp .ne 8, 3, [9]), (.iload 4, 2, []), (.goto 5, 3, [10])]),
  (120, [(.iload 5, 2, []), (.nop, 0, [10])]),
  (122, [(.ireturn, 1, [])])]
abbrev M_X12_worst : Md := (281, 12, 8, (some .int), P_X12_worst)
theorem ok_X12_worst : k_okM M_X12_worst := by unfold k_okM; decide +kernel
def P_X12_layWith : CB := [(0, [(.aload_n 0, 1, []), (.iload_n 2, 1, []), (.iconst 1, 1, []), (.iload_n 1, 1, []), (.ishl, 1, []), (.ior, 1, []), (.invokevirtual 422, 3, [283, 2, 12]), (.aload_n 0, 1, []), (.iload_n 1, 1, []), (.invokevirtual 313, 3, [235, 2, 12]), (.iconst (-1), 1, []), (.if_icmp .ne 5, 3, [1]), (.iconst 0, 1, []), (.ireturn, 1, [])]),
  (20, [(.iconst 0, 1, []), (.istore_n 3, 1, []), (.nop, 0, [2])]),
  (22, [(.iload_n 3, 1, []), (.aload_n 0, 1, []), (.getfield 202, 3, [12, 26, 0]), (.if_icmp .ge 38, 3, [4]), (.iload_n 2, 1, []), (.iload_n 3, 1, []), (.ishr, 1, []), (.iconst 1, 1, []), (.iand, 1, []), (.iconst 1, 1, []), (.if_icmp .ne 23, 3, [3]), (.aload_n 0, 1, []), (.getfield 43, 3, [12, 17, 1]), (.iload_n 3, 1, []), (.iaload, 1, []), (.ifCond .le 14, 3, [3]), (.aload_n 0, 1, []), (.iload_n 3, 1, []), (.invokevirtual 313, 3, [235, 2, 12]), (.iconst (-1), 1, []), (.if_icmp .ne 5, 3, [3]), (.iconst 0, 1, []), (.ireturn, 1, [])]),
  (59, [(.iinc 3 1, 3, []), (.goto (-40), 3, [2])]),
  (65, [(.iconst 1, 1, []), (.ireturn, 1, [])])]
abbrev M_X12_layWith : Md := (282, 12, 4, (some .boolean), P_X12_layWith)
theorem ok_X12_layWith : k_okM M_X12_layWith := by unfold k_okM; decide +kernel
def P_X12_ripSome : CB := [(0, [(.iconst 0, 1, []), (.istore_n 2, 1, []), (.nop, 0, [1])]),
  (2, [(.iload_n 2, 1, []), (.aload_n 0, 1, []), (.getfield 202, 3, [12, 26, 0]), (.if_icmp .ge 30, 3, [3]), (.iload_n 1, 1, []), (.iload_n 2, 1, []), (.ishr, 1, []), (.iconst 1, 1, []), (.iand, 1, []), (.iconst 1, 1, []), (.if_icmp .ne 15, 3, [2]), (.aload_n 0, 1, []), (.getfield 58, 3, [12, 22, 1]), (.iload_n 2, 1, []), (.iconst 0, 1, []), (.iastore, 1, []), (.aload_n 0, 1, []), (.iload_n 2, 1, []), (.invokevirtual 266, 3, [220, 2, 12]), (.nop, 0, [2])]),
  (31, [(.iinc 2 1, 3, []), (.goto (-32), 3, [1])]),
  (37, [(.return_, 1, [])])]
abbrev M_X12_ripSome : Md := (283, 12, 3, none, P_X12_ripSome)
theorem ok_X12_ripSome : k_okM M_X12_ripSome := by unfold k_okM; decide +kernel
