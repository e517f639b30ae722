/-! code as data (written by wip/whole/gencode.py) -/
def P_X12_press : CB := [(0, [(.iload_n 1, 1, []), (.iconst 1, 1, []), (.bipush 20, 2, []), (.invokestatic 175, 3, [179, 3]), (.ifCond .eq 13, 3, [1]), (.iload_n 2, 1, []), (.iconst 1, 1, []), (.bipush 20, 2, []), (.invokestatic 175, 3, [179, 3]), (.ifCond .ne 5, 3, [2]), (.nop, 0, [1])]),
  (20, [(.iconst (-1), 1, []), (.ireturn, 1, [])]),
  (22, [(.aload_n 0, 1, []), (.invokevirtual 334, 3, [224, 1, 12]), (.aload_n 0, 1, []), (.invokevirtual 319, 3, [225, 1, 12]), (.aload_n 0, 1, []), (.iconst 1, 1, []), (.invokevirtual 309, 3, [236, 2, 12]), (.aload_n 0, 1, []), (.iconst 1, 1, []), (.putfield 243, 3, [12, 30, 2]), (.iconst 0, 1, []), (.istore_n 3, 1, []), (.nop, 0, [3])]),
  (42, [(.iload_n 3, 1, []), (.sipush 324, 3, []), (.if_icmp .ge 16, 3, [4]), (.aload_n 0, 1, []), (.getfield 101, 3, [12, 42, 1]), (.iload_n 3, 1, []), (.iconst 0, 1, []), (.iastore, 1, []), (.iinc 3 1, 3, []), (.goto (-17), 3, [3])]),
  (62, [(.iconst (-1), 1, []), (.istore_n 3, 1, []), (.iconst 1, 1, []), (.istore 4, 2, []), (.iconst 1, 1, []), (.istore 5, 2, []), (.nop, 0, [5])]),
  (70, [(.iload 5, 2, []), (.iload_n 1, 1, []), (.if_icmp .gt 39, 3, [7]), (.iload 4, 2, []), (.ifCond .eq 34, 3, [7]), (.aload_n 0, 1, []), (.iload_n 2, 1, []), (.invokevirtual 337, 3, [247, 2, 12]), (.istore 4, 2, []), (.iload 4, 2, []), (.ifCond .eq 16, 3, [6]), (.aload_n 0, 1, []), (.invokevirtual 340, 3, [248, 1, 12]), (.ifCond .ne 9, 3, [6]), (.iload 5, 2, []), (.istore_n 3, 1, []), (.iconst 0, 1, []), (.istore 4, 2, []), (.nop, 0, [6])]),
  (106, [(.iinc 5 1, 3, []), (.goto (-39), 3, [5])]),
  (112, [(.iload_n 3, 1, []), (.iconst (-1), 1, []), (.if_icmp .ne 7, 3, [8]), (.aload_n 0, 1, []), (.invokevirtual 343, 3, [226, 1, 12]), (.nop, 0, [8])]),
  (121, [(.aload_n 0, 1, []), (.iconst 1, 1, []), (.invokevirtual 309, 3, [236, 2, 12]), (.iload_n 3, 1, []), (.ireturn, 1, [])])]
abbrev M_X12_press : Md := (249, 12, 6, (some .int), P_X12_press)
theorem ok_X12_press : k_okM M_X12_press := by unfold k_okM; decide +kernel
def P_X12_reach : CB := [(0, [(.iconst 0, 1, []), (.istore_n 2, 1, []), (.nop, 0, [1])]),
  (2, [(.iload_n 2, 1, []), (.sipush 324, 3, []), (.if_icmp .ge 61, 3, [6]), (.aload_n 0, 1, []), (.getfield 104, 3, [12, 43, 1]), (.iload_n 2, 1, []), (.iload_n 2, 1, []), (.aload_n 0, 1, []), (.getfield 46, 3, [12, 18, 1]), (.iconst 4, 1, []), (.iload_n 1, 1, []), (.imul, 1, []), (.iaload, 1, []), (.if_icmp .ne 7, 3, [2]), (.iconst 1, 1, []), (.goto 4, 3, [3])]),
  (30, [(.iconst 0, 1, []), (.nop, 0, [3])]),
  (31, [(.bastore, 1, []), (.aload_n 0, 1, []), (.getfield 95, 3, [12, 39, 1]), (.iload_n 2, 1, []), (.aload_n 0, 1, []), (.iload_n 2, 1, []), (.invokevirtual 328, 3, [246, 2, 12]), (.ifCond .eq 17, 3, [4]), (.aload_n 0, 1, []), (.iload_n 1, 1, []), (.iload_n 2, 1, []), (.iconst 0, 1, []), (.invokevirtual 259, 3, [218, 4, 12]), (.ifCond .eq 7, 3, [4]), (.iconst 1, 1, []), (.goto 4, 3, [5])]),
  (59, [(.iconst 0, 1, []), (.nop, 0, [5])]),
  (60, [(.bastore, 1, []), (.iinc 2 1, 3, []), (.goto (-62), 3, [1])]),
  (67, [(.iconst 1, 1, []), (.istore_n 2, 1, []), (.nop, 0, [7])]),
  (69, [(.iload_n 2, 1, []), (.ifCond .eq 58, 3, [11]), (.iconst 0, 1, []), (.istore_n 2, 1, []), (.iconst 0, 1, []), (.istore_n 3, 1, []), (.nop, 0, [8])]),
  (77, [(.iload_n 3, 1, []), (.sipush 324, 3, []), (.if_icmp .ge 44, 3, [10]), (.aload_n 0, 1, []), (.getfield 95, 3, [12, 39, 1]), (.iload_n 3, 1, []), (.baload, 1, []), (.ifCond .eq 29, 3, [9]), (.aload_n 0, 1, []), (.getfield 104, 3, [12, 43, 1]), (.iload_n 3, 1, []), (.baload, 1, []), (.ifCond .ne 20, 3, [9]), (.aload_n 0, 1, []), (.iload_n 3, 1, []), (.invokevirtual 346, 3, [251, 2, 12]), (.ifCond .eq 12, 3, [9]), (.aload_n 0, 1, []), (.getfield 104, 3, [12, 43, 1]), (.iload_n 3, 1, []), (.iconst 1, 1, []), (.bastore, 1, []), (.iconst 1, 1, []), (.istore_n 2, 1, []), (.nop, 0, [9])]),
  (119, [(.iinc 3 1, 3, []), (.goto (-45), 3, [8])]),
  (125, [(.goto (-56), 3, [7])]),
  (128, [(.return_, 1, [])])]
abbrev M_X12_reach : Md := (250, 12, 4, none, P_X12_reach)
theorem ok_X12_reach : k_okM M_X12_reach := by unfold k_okM; decide +kernel
def P_X12_isBeside : CB := [(0, [(.iconst 0, 1, []), (.istore_n 2, 1, []), (.nop, 0, [1])]),
  (2, [(.iload_n 2, 1, []), (.bipush 6, 2, []), (.if_icmp .ge 32, 3, [3]), (.aload_n 0, 1, []), (.iload_n 1, 1, []), (.iload_n 2, 1, []), (.invokevirtual 229, 3, [204, 3, 12]), (.istore_n 3, 1, []), (.iload_n 3, 1, []), (.iconst (-1), 1, []), (.if_icmp .eq 14, 3, [2]), (.aload_n 0, 1, []), (.getfield 104, 3, [12, 43, 1]), (.iload_n 3, 1, []), (.baload, 1, []), (.ifCond .eq 5, 3, [2]), (.iconst 1, 1, []), (.ireturn, 1, [])]),
  (31, [(.iinc 2 1, 3, []), (.goto (-32), 3, [1])]),
  (37, [(.iconst 0, 1, []), (.ireturn, 1, [])])]
abbrev M_X12_isBeside : Md := (251, 12, 4, (some .boolean), P_X12_isBeside)
theorem ok_X12_isBeside : k_okM M_X12_isBeside := by unfold k_okM; decide +kernel
def P_X12_isWall : CB := [(0, [(.aload_n 0, 1, []), (.iload_n 1, 1, []), (.invokevirtual 328, 3, [246, 2, 12]), (.ifCond .eq 24, 3, [1]), (.aload_n 0, 1, []), (.getfield 104, 3, [12, 43, 1]), (.iload_n 1, 1, []), (.baload, 1, []), (.ifCond .ne 15, 3, [1]), (.aload_n 0, 1, []), (.iload_n 1, 1, []), (.invokevirtual 346, 3, [251, 2, 12]), (.ifCond .eq 7, 3, [1]), (.iconst 1, 1, []), (.goto 4, 3, [2])]),
  (29, [(.iconst 0, 1, []), (.nop, 0, [2])]),
  (30, [(.ireturn, 1, [])])]
abbrev M_X12_isWall : Md := (252, 12, 2, (some .boolean), P_X12_isWall)
theorem ok_X12_isWall : k_okM M_X12_isWall := by unfold k_okM; decide +kernel
def P_X12_cutOf : CB := [(0, [(.iload_n 2, 1, []), (.iconst 1, 1, []), (.if_icmp .ne 43, 3, [4]), (.iconst 0, 1, []), (.istore_n 3, 1, []), (.nop, 0, [1])]),
  (7, [(.iload_n 3, 1, []), (.aload_n 0, 1, []), (.getfield 43, 3, [12, 17, 1]), (.iload_n 1, 1, []), (.iaload, 1, []), (.if_icmp .ge 29, 3, [3]), (.aload_n 0, 1, []), (.getfield 104, 3, [12, 43, 1]), (.aload_n 0, 1, []), (.getfield 46, 3, [12, 18, 1]), (.iconst 4, 1, []), (.iload_n 1, 1, []), (.imul, 1, []), (.iload_n 3, 1, []), (.iadd, 1, []), (.iaload, 1, []), (.baload, 1, []), (.ifCond .ne 5, 3, [2]), (.iload_n 3, 1, []), (.ireturn, 1, [])]),
  (37, [(.iinc 3 1, 3, []), (.goto (-33), 3, [1])]),
  (43, [(.iconst (-1), 1, []), (.ireturn, 1, [])]),
  (45, [(.iconst 0, 1, []), (.istore_n 3, 1, []), (.iconst 0, 1, []), (.istore 4, 2, []), (.iconst 0, 1, []), (.istore 5, 2, []), (.nop, 0, [5])]),
  (53, [(.iload 5, 2, []), (.sipush 324, 3, []), (.if_icmp .ge 157, 3, [16]), (.iload_n 3, 1, []), (.iload_n 2, 1, []), (.ifCond .ne 21, 3, [7]), (.aload_n 0, 1, []), (.getfield 104, 3, [12, 43, 1]), (.iload 5, 2, []), (.baload, 1, []), (.ifCond .eq 7, 3, [6]), (.iconst 1, 1, []), (.goto 21, 3, [9])]),
  (80, [(.iconst 0, 1, []), (.goto 17, 3, [9])]),
  (84, [(.aload_n 0, 1, []), (.iload 5, 2, []), (.invokevirtual 349, 3, [252, 2, 12]), (.ifCond .eq 7, 3, [8]), (.iconst 1, 1, []), (.goto 4, 3, [9])]),
  (97, [(.iconst 0, 1, []), (.nop, 0, [9])]),
  (98, [(.iadd, 1, []), (.istore_n 3, 1, []), (.aload_n 0, 1, []), (.iload 5, 2, []), (.invokevirtual 349, 3, [252, 2, 12]), (.ifCond .eq 40, 3, [10]), (.aload_n 0, 1, []), (.getfield 67, 3, [12, 25, 1]), (.iload 5, 2, []), (.baload, 1, []), (.ifCond .ne 30, 3, [10]), (.aload_n 0, 1, []), (.getfield 34, 3, [12, 12, 1]), (.aload_n 0, 1, []), (.getfield 37, 3, [12, 15, 1]), (.iload_n 1, 1, []), (.iaload, 1, []), (.iaload, 1, []), (.iload 5, 2, []), (.invokestatic 211, 3, [203, 1]), (.ishr, 1, []), (.iconst 1, 1, []), (.iand, 1, []), (.iconst 1, 1, []), (.if_icmp .ne 7, 3, [10]), (.iconst 1, 1, []), (.goto 4, 3, [11])]),
  (146, [(.iconst 0, 1, []), (.nop, 0, [11])]),
  (147, [(.istore 6, 2, []), (.iconst 0, 1, []), (.istore 7, 2, []), (.nop, 0, [12])]),
  (152, [(.iload 7, 2, []), (.aload_n 0, 1, []), (.getfield 202, 3, [12, 26, 0]), (.if_icmp .ge 51, 3, [15]), (.iload 6, 2, []), (.ifCond .eq 46, 3, [15]), (.iload 4, 2, []), (.iload 7, 2, []), (.iload_n 1, 1, []), (.if_icmp .eq 28, 3, [13]), (.aload_n 0, 1, []), (.iload 7, 2, []), (.iload 5, 2, []), (.aload_n 0, 1, []), (.iload_n 1, 1, []), (.iload 7, 2, []), (.invokevirtual 253, 3, [216, 3, 12]), (.invokevirtual 256, 3, [217, 4, 12]), (.ifCond .eq 10, 3, [13]), (.iconst 1, 1, []), (.iload 7, 2, []), (.ishl, 1, []), (.goto 4, 3, [14])]),
  (199, [(.iconst 0, 1, []), (.nop, 0, [14])]),
  (200, [(.ior, 1, []), (.istore 4, 2, []), (.iinc 7 1, 3, []), (.goto (-54), 3, [12])]),
  (209, [(.iinc 5 1, 3, []), (.goto (-159), 3, [5])]),
  (215, [(.iload_n 2, 1, []), (.iconst 3, 1, []), (.if_icmp .ne 8, 3, [17]), (.iload 4, 2, []), (.goto 4, 3, [18])]),
  (225, [(.iload_n 3, 1, []), (.nop, 0, [18])]),
  (226, [(.ireturn, 1, [])])]
abbrev M_X12_cutOf : Md := (253, 12, 8, (some .int), P_X12_cutOf)
theorem ok_X12_cutOf : k_okM M_X12_cutOf := by unfold k_okM; decide +kernel
def P_X12_cut : CB := [(0, [(.aload_n 0, 1, []), (.iload_n 1, 1, []), (.invokevirtual 220, 3, [198, 2, 12]), (.ifCond .eq 21, 3, [1]), (.aload_n 0, 1, []), (.getfield 43, 3, [12, 17, 1]), (.iload_n 1, 1, []), (.iaload, 1, []), (.ifCond .eq 12, 3, [1]), (.iload_n 2, 1, []), (.iconst 0, 1, []), (.iconst 3, 1, []), (.invokestatic 175, 3, [179, 3]), (.ifCond .ne 5, 3, [2]), (.nop, 0, [1])]),
  (26, [(.iconst (-1), 1, []), (.ireturn, 1, [])]),
  (28, [(.aload_n 0, 1, []), (.iconst 1, 1, []), (.invokevirtual 309, 3, [236, 2, 12]), (.aload_n 0, 1, []), (.iload_n 1, 1, []), (.invokevirtual 296, 3, [221, 2, 12]), (.aload_n 0, 1, []), (.iload_n 1, 1, []), (.invokevirtual 352, 3, [250, 2, 12]), (.aload_n 0, 1, []), (.iload_n 1, 1, []), (.iload_n 2, 1, []), (.invokevirtual 355, 3, [253, 3, 12]), (.istore_n 3, 1, []), (.aload_n 0, 1, []), (.iload_n 1, 1, []), (.invokevirtual 306, 3, [222, 2, 12]), (.iload_n 3, 1, []), (.ireturn, 1, [])])]
abbrev M_X12_cut : Md := (254, 12, 4, (some .int), P_X12_cut)
theorem ok_X12_cut : k_okM M_X12_cut := by unfold k_okM; decide +kernel
def P_X12_isAhead : CB := [(0, [(.iload_n 1, 1, []), (.iconst (-1), 1, []), (.if_icmp .ne 7, 3, [1]), (.iconst 1, 1, []), (.goto 12, 3, [2])]),
  (9, [(.iload_n 1, 1, []), (.invokestatic 358, 3, [316, 1]), (.iload_n 0, 1, []), (.invokestatic 358, 3, [316, 1]), (.isub, 1, []), (.nop, 0, [2])]),
  (18, [(.istore_n 2, 1, []), (.iload_n 1, 1, []), (.iload_n 0, 1, []), (.ixor, 1, []), (.istore_n 3, 1, []), (.iload_n 2, 1, []), (.ifCond .gt 16, 3, [3]), (.iload_n 2, 1, []), (.ifCond .ne 16, 3, [4]), (.iload_n 0, 1, []), (.iload_n 3, 1, []), (.iand, 1, []), (.iload_n 3, 1, []), (.ineg, 1, []), (.iand, 1, []), (.ifCond .eq 7, 3, [4]), (.nop, 0, [3])]),
  (40, [(.iconst 1, 1, []), (.goto 4, 3, [5])]),
  (44, [(.iconst 0, 1, []), (.nop, 0, [5])]),
  (45, [(.ireturn, 1, [])])]
abbrev M_X12_isAhead : Md := (255, 12, 4, (some .boolean), P_X12_isAhead)
theorem ok_X12_isAhead : k_okM M_X12_isAhead := by unfold k_okM; decide +kernel
def P_X12_bars : CB := [(0, [(.aload_n 0, 1, []), (.iload_n 1, 1, []), (.invokevirtual 220, 3, [198, 2, 12]), (.ifCond .eq 12, 3, [1]), (.aload_n 0, 1, []), (.getfield 43, 3, [12, 17, 1]), (.iload_n 1, 1, []), (.iaload, 1, []), (.ifCond .ne 5, 3, [2]), (.nop, 0, [1])]),
  (17, [(.iconst (-1), 1, []), (.ireturn, 1, [])]),
  (19, [(.aload_n 0, 1, []), (.iconst 1, 1, []), (.invokevirtual 309, 3, [236, 2, 12]), (.iconst (-1), 1, []), (.istore_n 2, 1, []), (.iconst 0, 1, []), (.istore_n 3, 1, []), (.nop, 0, [3])]),
  (28, [(.iload_n 3, 1, []), (.iconst 1, 1, []), (.aload_n 0, 1, []), (.getfield 202, 3, [12, 26, 0]), (.ishl, 1, []), (.if_icmp .ge 49, 3, [8]), (.iload_n 3, 1, []), (.iload_n 1, 1, []), (.ishr, 1, []), (.iconst 1, 1, []), (.iand, 1, []), (.iconst 1, 1, []), (.if_icmp .eq 34, 3, [7]), (.iload_n 3, 1, []), (.iload_n 2, 1, []), (.invokestatic 363, 3, [255, 2]), (.ifCond .ne 6, 3, [4]), (.goto 23, 3, [7])]),
  (58, [(.aload_n 0, 1, []), (.iload_n 3, 1, []), (.putfield 240, 3, [12, 28, 0]), (.aload_n 0, 1, []), (.iload_n 1, 1, []), (.invokevirtual 316, 3, [238, 2, 12]), (.iconst (-1), 1, []), (.if_icmp .eq 7, 3, [5]), (.iload_n 3, 1, []), (.goto 4, 3, [6])]),
  (76, [(.iload_n 2, 1, []), (.nop, 0, [6])]),
  (77, [(.istore_n 2, 1, []), (.nop, 0, [7])]),
  (78, [(.iinc 3 1, 3, []), (.goto (-53), 3, [3])]),
  (84, [(.aload_n 0, 1, []), (.iconst 0, 1, []), (.putfield 240, 3, [12, 28, 0]), (.iload_n 2, 1, []), (.ireturn, 1, [])])]
abbrev M_X12_bars : Md := (256, 12, 4, (some .int), P_X12_bars)
theorem ok_X12_bars : k_okM M_X12_bars := by unfold k_okM; decide +kernel
def P_X12_goOn : CB := [(0, [(.aload_n 0, 1, []), (.getfield 107, 3, [12, 44, 1]), (.iload_n 3, 1, []), (.iload 4, 2, []), (.iadd, 1, []), (.iconst 1, 1, []), (.isub, 1, []), (.iaload, 1, []), (.istore 5, 2, []), (.iload 5, 2, []), (.aload_n 0, 1, []), (.getfield 46, 3, [12, 18, 1]), (.iconst 4, 1, []), (.iload_n 2, 1, []), (.imul, 1, []), (.iconst 1, 1, []), (.iadd, 1, []), (.iaload, 1, []), (.if_icmp .ne 19, 3, [1]), (.aload_n 0, 1, []), (.iload_n 1, 1, []), (.iconst 1, 1, []), (.iload_n 2, 1, []), (.ishl, 1, []), (.iconst (-1), 1, []), (.ixor, 1, []), (.iand, 1, []), (.iload_n 3, 1, []), (.iload 4, 2, []), (.iadd, 1, []), (.invokevirtual 366, 3, [259, 3, 12]), (.ireturn, 1, [])]),
  (44, [(.iconst 0, 1, []), (.istore 6, 2, []), (.nop, 0, [2])]),
  (47, [(.iload 6, 2, []), (.bipush 6, 2, []), (.if_icmp .ge 129, 3, [5]), (.aload_n 0, 1, []), (.iload 5, 2, []), (.iload 6, 2, []), (.invokevirtual 229, 3, [204, 3, 12]), (.istore 7, 2, []), (.iload 7, 2, []), (.iconst (-1), 1, []), (.if_icmp .eq 107, 3, [4]), (.aload_n 0, 1, []), (.iload_n 2, 1, []), (.iload 7, 2, []), (.iconst 0, 1, []), (.invokevirtual 259, 3, [218, 4, 12]), (.ifCond .eq 96, 3, [4]), (.aload_n 0, 1, []), (.iload 7, 2, []), (.iload_n 3, 1, []), (.iload 4, 2, []), (.invokevirtual 369, 3, [258, 4, 12]), (.ifCond .ne 6, 3, [3]), (.goto 81, 3, [4])]),
  (96, [(.aload_n 0, 1, []), (.getfield 107, 3, [12, 44, 1]), (.iload_n 3, 1, []), (.iload 4, 2, []), (.iadd, 1, []), (.iload 7, 2, []), (.iastore, 1, []), (.aload_n 0, 1, []), (.getfield 71, 3, [12, 27, 1]), (.sipush 324, 3, []), (.iload_n 2, 1, []), (.imul, 1, []), (.iload 7, 2, []), (.iadd, 1, []), (.iaload, 1, []), (.istore 8, 2, []), (.aload_n 0, 1, []), (.getfield 71, 3, [12, 27, 1]), (.sipush 324, 3, []), (.iload_n 2, 1, []), (.imul, 1, []), (.iload 7, 2, []), (.iadd, 1, []), (.dup2, 1, []), (.iaload, 1, []), (.iconst 4, 1, []), (.ior, 1, []), (.iastore, 1, []), (.aload_n 0, 1, []), (.iload_n 1, 1, []), (.iload_n 2, 1, []), (.iload_n 3, 1, []), (.iload 4, 2, []), (.iconst 1, 1, []), (.iadd, 1, []), (.invokevirtual 372, 3, [257, 5, 12]), (.istore 9, 2, []), (.aload_n 0, 1, []), (.getfield 71, 3, [12, 27, 1]), (.sipush 324, 3, []), (.iload_n 2, 1, []), (.imul, 1, []), (.iload 7, 2, []), (.iadd, 1, []), (.iload 8, 2, []), (.iastore, 1, []), (.iload 9, 2, []), (.ifCond .eq 5, 3, [4]), (.iconst 1, 1, []), (.ireturn, 1, [])]),
  (174, [(.iinc 6 1, 3, []), (.goto (-130), 3, [2])]),
  (180, [(.iconst 0, 1, []), (.ireturn, 1, [])])]
abbrev M_X12_goOn : Md := (257, 12, 10, (some .boolean), P_X12_goOn)
theorem ok_X12_goOn : k_okM M_X12_goOn := by unfold k_okM; decide +kernel
def P_X12_isPlainFrom : CB := [(0, [(.iload_n 2, 1, []), (.istore 4, 2, []), (.nop, 0, [1])]),
  (3, [(.iload 4, 2, []), (.iload_n 2, 1, []), (.iload_n 3, 1, []), (.iadd, 1, []), (.if_icmp .ge 67, 3, [6]), (.aload_n 0, 1, []), (.getfield 107, 3, [12, 44, 1]), (.iload 4, 2, []), (.iaload, 1, []), (.iload_n 1, 1, []), (.if_icmp .ne 5, 3, [2]), (.iconst 0, 1, []), (.ireturn, 1, [])]),
  (24, [(.iconst 0, 1, []), (.istore 5, 2, []), (.nop, 0, [3])]),
  (27, [(.iload 5, 2, []), (.bipush 6, 2, []), (.if_icmp .ge 38, 3, [5]), (.iload 4, 2, []), (.iload_n 2, 1, []), (.iload_n 3, 1, []), (.iadd, 1, []), (.iconst 1, 1, []), (.isub, 1, []), (.if_icmp .ge 28, 3, [5]), (.aload_n 0, 1, []), (.aload_n 0, 1, []), (.getfield 107, 3, [12, 44, 1]), (.iload 4, 2, []), (.iaload, 1, []), (.iload 5, 2, []), (.invokevirtual 229, 3, [204, 3, 12]), (.iload_n 1, 1, []), (.if_icmp .ne 5, 3, [4]), (.iconst 0, 1, []), (.ireturn, 1, [])]),
  (63, [(.iinc 5 1, 3, []), (.goto (-39), 3, [3])]),
  (69, [(.iinc 4 1, 3, []), (.goto (-69), 3, [1])]),
  (75, [(.iconst 1, 1, []), (.ireturn, 1, [])])]
abbrev M_X12_isPlainFrom : Md := (258, 12, 6, (some .boolean), P_X12_isPlainFrom)
theorem ok_X12_isPlainFrom : k_okM M_X12_isPlainFrom := by unfold k_okM; decide +kernel
def P_X12_findAll : CB := [(0, [(.iload_n 1, 1, []), (.ifCond .ne 5, 3, [1]), (.iconst 1, 1, []), (.ireturn, 1, [])]),
  (6, [(.iload_n 1, 1, []), (.invokestatic 375, 3, [315, 1]), (.istore_n 3, 1, []), (.aload_n 0, 1, []), (.getfield 107, 3, [12, 44, 1]), (.iload_n 2, 1, []), (.aload_n 0, 1, []), (.getfield 46, 3, [12, 18, 1]), (.iconst 4, 1, []), (.iload_n 3, 1, []), (.imul, 1, []), (.iaload, 1, []), (.iastore, 1, []), (.aload_n 0, 1, []), (.iload_n 1, 1, []), (.iload_n 3, 1, []), (.iload_n 2, 1, []), (.iconst 1, 1, []), (.invokevirtual 372, 3, [257, 5, 12]), (.ireturn, 1, [])])]
abbrev M_X12_findAll : Md := (259, 12, 4, (some .boolean), P_X12_findAll)
theorem ok_X12_findAll : k_okM M_X12_findAll := by unfold k_okM; decide +kernel
def P_X12_together : CB := [(0, [(.iload_n 1, 1, []), (.ifCond .le 39, 3, [1]), (.iload_n 1, 1, []), (.aload_n 0, 1, []), (.getfield 202, 3, [12, 26, 0]), (.ishr, 1, []), (.ifCond .ne 30, 3, [1]), (.iload_n 1, 1, []), (.invokestatic 358, 3, [316, 1]), (.iconst 3, 1, []), (.if_icmp .gt 22, 3, [1]), (.aload_n 0, 1, []), (.getfield 135, 3, [12, 1, 0]), (.aload_n 0, 1, []), (.getfield 139, 3, [12, 2, 0]), (.imul, 1, []), (.aload_n 0, 1, []), (.getfield 142, 3, [12, 3, 0]), (.imul, 1, []), (.bipush 24, 2, []), (.if_icmp .le 5, 3, [2]), (.nop, 0, [1])]),
  (40, [(.iconst (-1), 1, []), (.ireturn, 1, [])]),
  (42, [(.iconst 0, 1, []), (.istore_n 2, 1, []), (.nop, 0, [3])]),
  (44, [(.iload_n 2, 1, []), (.aload_n 0, 1, []), (.getfield 202, 3, [12, 26, 0]), (.if_icmp .ge 39, 3, [6]), (.iload_n 1, 1, []), (.iload_n 2, 1, []), (.ishr, 1, []), (.iconst 1, 1, []), (.iand, 1, []), (.iconst 1, 1, []), (.if_icmp .ne 24, 3, [5]), (.aload_n 0, 1, []), (.getfield 43, 3, [12, 17, 1]), (.iload_n 2, 1, []), (.iaload, 1, []), (.iconst 2, 1, []), (.if_icmp .ne 12, 3, [4]), (.aload_n 0, 1, []), (.getfield 49, 3, [12, 19, 1]), (.iload_n 2, 1, []), (.iaload, 1, []), (.ifCond .le 5, 3, [5]), (.nop, 0, [4])]),
  (80, [(.iconst (-1), 1, []), (.ireturn, 1, [])]),
  (82, [(.iinc 2 1, 3, []), (.goto (-41), 3, [3])]),
  (88, [(.aload_n 0, 1, []), (.iconst 1, 1, []), (.invokevirtual 309, 3, [236, 2, 12]), (.aload_n 0, 1, []), (.iload_n 1, 1, []), (.putfield 240, 3, [12, 28, 0]), (.aload_n 0, 1, []), (.iload_n 1, 1, []), (.iconst 0, 1, []), (.invokevirtual 366, 3, [259, 3, 12]), (.istore_n 2, 1, []), (.aload_n 0, 1, []), (.iconst 0, 1, []), (.putfield 240, 3, [12, 28, 0]), (.iload_n 2, 1, []), (.ifCond .eq 7, 3, [7]), (.iconst 1, 1, []), (.goto 4, 3, [8])]),
  (118, [(.iconst 0, 1, []), (.nop, 0, [8])]),
  (119, [(.ireturn, 1, [])])]
abbrev M_X12_together : Md := (260, 12, 3, (some .int), P_X12_together)
theorem ok_X12_together : k_okM M_X12_together := by unfold k_okM; decide +kernel
