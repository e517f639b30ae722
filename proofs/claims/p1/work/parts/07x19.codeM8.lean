/-! code as data (written by wip/whole/gencode.py) -/
def P_X12_delayOf : CB := [(0, [(.iconst 0, 1, []), (.istore_n 2, 1, []), (.iconst 0, 1, []), (.istore_n 3, 1, []), (.nop, 0, [1])]),
  (4, [(.iload_n 3, 1, []), (.aload_n 0, 1, []), (.getfield 49, 3, [12, 19, 1]), (.iload_n 1, 1, []), (.iaload, 1, []), (.if_icmp .ge 40, 3, [2]), (.iload_n 2, 1, []), (.aload_n 0, 1, []), (.aload_n 0, 1, []), (.getfield 52, 3, [12, 20, 1]), (.sipush 1200, 3, []), (.iload_n 1, 1, []), (.imul, 1, []), (.iload_n 3, 1, []), (.iadd, 1, []), (.iaload, 1, []), (.aload_n 0, 1, []), (.getfield 55, 3, [12, 21, 1]), (.sipush 1200, 3, []), (.iload_n 1, 1, []), (.imul, 1, []), (.iload_n 3, 1, []), (.iadd, 1, []), (.iaload, 1, []), (.invokevirtual 446, 3, [294, 3, 12]), (.iadd, 1, []), (.istore_n 2, 1, []), (.iinc 3 1, 3, []), (.goto (-44), 3, [1])]),
  (51, [(.iconst 0, 1, []), (.istore_n 3, 1, []), (.nop, 0, [3])]),
  (53, [(.iload_n 3, 1, []), (.aload_n 0, 1, []), (.getfield 58, 3, [12, 22, 1]), (.iload_n 1, 1, []), (.iaload, 1, []), (.if_icmp .ge 53, 3, [6]), (.iload_n 2, 1, []), (.aload_n 0, 1, []), (.iload_n 1, 1, []), (.iload_n 3, 1, []), (.invokevirtual 416, 3, [278, 3, 12]), (.ifCond .eq 34, 3, [4]), (.aload_n 0, 1, []), (.aload_n 0, 1, []), (.getfield 61, 3, [12, 23, 1]), (.sipush 2400, 3, []), (.iload_n 1, 1, []), (.imul, 1, []), (.iload_n 3, 1, []), (.iadd, 1, []), (.iaload, 1, []), (.aload_n 0, 1, []), (.getfield 64, 3, [12, 24, 1]), (.sipush 2400, 3, []), (.iload_n 1, 1, []), (.imul, 1, []), (.iload_n 3, 1, []), (.iadd, 1, []), (.iaload, 1, []), (.invokevirtual 446, 3, [294, 3, 12]), (.goto 4, 3, [5])]),
  (104, [(.iconst 0, 1, []), (.nop, 0, [5])]),
  (105, [(.iadd, 1, []), (.istore_n 2, 1, []), (.iinc 3 1, 3, []), (.goto (-57), 3, [3])]),
  (113, [(.iload_n 2, 1, []), (.ireturn, 1, [])])]
abbrev M_X12_delayOf : Md := (295, 12, 4, (some .int), P_X12_delayOf)
theorem ok_X12_delayOf : k_okM M_X12_delayOf := by unfold k_okM; decide +kernel
def P_X12_delay : CB := [(0, [(.aload_n 0, 1, []), (.iload_n 1, 1, []), (.invokevirtual 220, 3, [198, 2, 12]), (.ifCond .eq 11, 3, [1]), (.aload_n 0, 1, []), (.iload_n 1, 1, []), (.invokevirtual 449, 3, [295, 2, 12]), (.goto 4, 3, [2])]),
  (16, [(.iconst (-1), 1, []), (.nop, 0, [2])]),
  (17, [(.ireturn, 1, [])])]
abbrev M_X12_delay : Md := (296, 12, 2, (some .int), P_X12_delay)
theorem ok_X12_delay : k_okM M_X12_delay := by unfold k_okM; decide +kernel
def P_X12_isBy : CB := [(0, [(.iconst 0, 1, []), (.istore_n 3, 1, []), (.nop, 0, [1])]),
  (2, [(.iload_n 3, 1, []), (.iconst 4, 1, []), (.if_icmp .ge 35, 3, [3]), (.aload_n 0, 1, []), (.iload_n 1, 1, []), (.iload_n 3, 1, []), (.invokevirtual 229, 3, [204, 3, 12]), (.istore 4, 2, []), (.iload 4, 2, []), (.iconst (-1), 1, []), (.if_icmp .eq 15, 3, [2]), (.aload_n 0, 1, []), (.iload_n 2, 1, []), (.iload 4, 2, []), (.invokevirtual 236, 3, [213, 3, 12]), (.ifCond .eq 5, 3, [2]), (.iconst 1, 1, []), (.ireturn, 1, [])]),
  (33, [(.iinc 3 1, 3, []), (.goto (-34), 3, [1])]),
  (39, [(.iconst 0, 1, []), (.ireturn, 1, [])])]
abbrev M_X12_isBy : Md := (297, 12, 5, (some .boolean), P_X12_isBy)
theorem ok_X12_isBy : k_okM M_X12_isBy := by unfold k_okM; decide +kernel
def P_X12_pair : CB := [(0, [(.aload_n 0, 1, []), (.iload_n 1, 1, []), (.invokevirtual 220, 3, [198, 2, 12]), (.ifCond .eq 38, 3, [1]), (.aload_n 0, 1, []), (.iload_n 2, 1, []), (.invokevirtual 220, 3, [198, 2, 12]), (.ifCond .eq 30, 3, [1]), (.iload_n 1, 1, []), (.iload_n 2, 1, []), (.if_icmp .eq 25, 3, [1]), (.iload_n 3, 1, []), (.iconst 0, 1, []), (.iconst 3, 1, []), (.invokestatic 175, 3, [179, 3]), (.ifCond .eq 16, 3, [1]), (.iload_n 3, 1, []), (.iconst 2, 1, []), (.if_icmp .ne 15, 3, [2]), (.aload_n 0, 1, []), (.iload_n 1, 1, []), (.invokevirtual 390, 3, [263, 2, 12]), (.ifCond .ne 7, 3, [2]), (.nop, 0, [1])]),
  (43, [(.sipush (-1000), 3, []), (.ireturn, 1, [])]),
  (47, [(.iload_n 3, 1, []), (.ifCond .ne 12, 3, [3]), (.aload_n 0, 1, []), (.iload_n 1, 1, []), (.iload_n 2, 1, []), (.invokevirtual 452, 3, [299, 3, 12]), (.goto 42, 3, [6])]),
  (60, [(.iload_n 3, 1, []), (.iconst 1, 1, []), (.if_icmp .ne 17, 3, [4]), (.aload_n 0, 1, []), (.iload_n 1, 1, []), (.invokevirtual 449, 3, [295, 2, 12]), (.aload_n 0, 1, []), (.iload_n 2, 1, []), (.invokevirtual 449, 3, [295, 2, 12]), (.isub, 1, []), (.goto 23, 3, [6])]),
  (79, [(.iload_n 3, 1, []), (.iconst 2, 1, []), (.if_icmp .ne 12, 3, [5]), (.aload_n 0, 1, []), (.iload_n 1, 1, []), (.iload_n 2, 1, []), (.invokevirtual 455, 3, [300, 3, 12]), (.goto 9, 3, [6])]),
  (93, [(.aload_n 0, 1, []), (.iload_n 1, 1, []), (.iload_n 2, 1, []), (.invokevirtual 458, 3, [301, 3, 12]), (.nop, 0, [6])]),
  (99, [(.ireturn, 1, [])])]
abbrev M_X12_pair : Md := (298, 12, 4, (some .int), P_X12_pair)
theorem ok_X12_pair : k_okM M_X12_pair := by unfold k_okM; decide +kernel
def P_X12_byAll : CB := [(0, [(.iconst 0, 1, []), (.istore_n 3, 1, []), (.iconst 0, 1, []), (.istore 4, 2, []), (.nop, 0, [1])]),
  (5, [(.iload 4, 2, []), (.sipush 324, 3, []), (.if_icmp .ge 37, 3, [4]), (.iload_n 3, 1, []), (.aload_n 0, 1, []), (.iload_n 1, 1, []), (.iload 4, 2, []), (.invokevirtual 236, 3, [213, 3, 12]), (.ifCond .eq 17, 3, [2]), (.aload_n 0, 1, []), (.iload 4, 2, []), (.iload_n 2, 1, []), (.invokevirtual 461, 3, [297, 3, 12]), (.ifCond .eq 7, 3, [2]), (.iconst 1, 1, []), (.goto 4, 3, [3])]),
  (38, [(.iconst 0, 1, []), (.nop, 0, [3])]),
  (39, [(.iadd, 1, []), (.istore_n 3, 1, []), (.iinc 4 1, 3, []), (.goto (-39), 3, [1])]),
  (47, [(.iload_n 3, 1, []), (.ireturn, 1, [])])]
abbrev M_X12_byAll : Md := (299, 12, 5, (some .int), P_X12_byAll)
theorem ok_X12_byAll : k_okM M_X12_byAll := by unfold k_okM; decide +kernel
def P_X12_longest : CB := [(0, [(.aload_n 0, 1, []), (.aload_n 0, 1, []), (.getfield 61, 3, [12, 23, 1]), (.sipush 2400, 3, []), (.iload_n 1, 1, []), (.imul, 1, []), (.iaload, 1, []), (.iload_n 2, 1, []), (.invokevirtual 461, 3, [297, 3, 12]), (.ifCond .eq 7, 3, [1]), (.iconst 1, 1, []), (.goto 4, 3, [2])]),
  (22, [(.iconst 0, 1, []), (.nop, 0, [2])]),
  (23, [(.istore_n 3, 1, []), (.iload_n 3, 1, []), (.istore 4, 2, []), (.iconst 0, 1, []), (.istore 5, 2, []), (.nop, 0, [3])]),
  (30, [(.iload 5, 2, []), (.aload_n 0, 1, []), (.getfield 58, 3, [12, 22, 1]), (.iload_n 1, 1, []), (.iaload, 1, []), (.if_icmp .ge 46, 3, [6]), (.aload_n 0, 1, []), (.aload_n 0, 1, []), (.getfield 64, 3, [12, 24, 1]), (.sipush 2400, 3, []), (.iload_n 1, 1, []), (.imul, 1, []), (.iload 5, 2, []), (.iadd, 1, []), (.iaload, 1, []), (.iload_n 2, 1, []), (.invokevirtual 461, 3, [297, 3, 12]), (.ifCond .eq 9, 3, [4]), (.iload_n 3, 1, []), (.iconst 1, 1, []), (.iadd, 1, []), (.goto 4, 3, [5])]),
  (68, [(.iconst 0, 1, []), (.nop, 0, [5])]),
  (69, [(.istore_n 3, 1, []), (.iload 4, 2, []), (.iload_n 3, 1, []), (.invokestatic 9, 3, [0]), (.istore 4, 2, []), (.iinc 5 1, 3, []), (.goto (-51), 3, [3])]),
  (84, [(.iload 4, 2, []), (.ireturn, 1, [])])]
abbrev M_X12_longest : Md := (300, 12, 6, (some .int), P_X12_longest)
theorem ok_X12_longest : k_okM M_X12_longest := by unfold k_okM; decide +kernel
def P_X12_away : CB := [(0, [(.iconst 0, 1, []), (.istore_n 3, 1, []), (.iconst 0, 1, []), (.istore 4, 2, []), (.nop, 0, [1])]),
  (5, [(.iload 4, 2, []), (.aload_n 0, 1, []), (.getfield 58, 3, [12, 22, 1]), (.iload_n 1, 1, []), (.iaload, 1, []), (.if_icmp .ge 77, 3, [4]), (.aload_n 0, 1, []), (.getfield 61, 3, [12, 23, 1]), (.sipush 2400, 3, []), (.iload_n 1, 1, []), (.imul, 1, []), (.iload 4, 2, []), (.iadd, 1, []), (.iaload, 1, []), (.istore 5, 2, []), (.aload_n 0, 1, []), (.getfield 64, 3, [12, 24, 1]), (.sipush 2400, 3, []), (.iload_n 1, 1, []), (.imul, 1, []), (.iload 4, 2, []), (.iadd, 1, []), (.iaload, 1, []), (.istore 6, 2, []), (.iload_n 3, 1, []), (.iload 5, 2, []), (.invokestatic 211, 3, [203, 1]), (.iload 6, 2, []), (.invokestatic 211, 3, [203, 1]), (.if_icmp .ne 24, 3, [2]), (.aload_n 0, 1, []), (.iload 5, 2, []), (.iload_n 2, 1, []), (.invokevirtual 461, 3, [297, 3, 12]), (.aload_n 0, 1, []), (.iload 6, 2, []), (.iload_n 2, 1, []), (.invokevirtual 461, 3, [297, 3, 12]), (.if_icmp .eq 7, 3, [2]), (.iconst 1, 1, []), (.goto 4, 3, [3])]),
  (81, [(.iconst 0, 1, []), (.nop, 0, [3])]),
  (82, [(.iadd, 1, []), (.istore_n 3, 1, []), (.iinc 4 1, 3, []), (.goto (-82), 3, [1])]),
  (90, [(.iload_n 3, 1, []), (.ireturn, 1, [])])]
abbrev M_X12_away : Md := (301, 12, 7, (some .int), P_X12_away)
theorem ok_X12_away : k_okM M_X12_away := by unfold k_okM; decide +kernel
def P_X12_keepNow : CB := [(0, [(.iconst 0, 1, []), (.istore_n 1, 1, []), (.nop, 0, [1])]),
  (2, [(.iload_n 1, 1, []), (.aload_n 0, 1, []), (.getfield 202, 3, [12, 26, 0]), (.if_icmp .ge 87, 3, [4]), (.aload_n 0, 1, []), (.getfield 128, 3, [12, 53, 1]), (.iload_n 1, 1, []), (.aload_n 0, 1, []), (.getfield 58, 3, [12, 22, 1]), (.iload_n 1, 1, []), (.iaload, 1, []), (.iastore, 1, []), (.iconst 0, 1, []), (.istore_n 2, 1, []), (.nop, 0, [2])]),
  (24, [(.iload_n 2, 1, []), (.aload_n 0, 1, []), (.getfield 58, 3, [12, 22, 1]), (.iload_n 1, 1, []), (.iaload, 1, []), (.if_icmp .ge 57, 3, [3]), (.aload_n 0, 1, []), (.getfield 122, 3, [12, 51, 1]), (.sipush 2400, 3, []), (.iload_n 1, 1, []), (.imul, 1, []), (.iload_n 2, 1, []), (.iadd, 1, []), (.aload_n 0, 1, []), (.getfield 61, 3, [12, 23, 1]), (.sipush 2400, 3, []), (.iload_n 1, 1, []), (.imul, 1, []), (.iload_n 2, 1, []), (.iadd, 1, []), (.iaload, 1, []), (.iastore, 1, []), (.aload_n 0, 1, []), (.getfield 125, 3, [12, 52, 1]), (.sipush 2400, 3, []), (.iload_n 1, 1, []), (.imul, 1, []), (.iload_n 2, 1, []), (.iadd, 1, []), (.aload_n 0, 1, []), (.getfield 64, 3, [12, 24, 1]), (.sipush 2400, 3, []), (.iload_n 1, 1, []), (.imul, 1, []), (.iload_n 2, 1, []), (.iadd, 1, []), (.iaload, 1, []), (.iastore, 1, []), (.iinc 2 1, 3, []), (.goto (-61), 3, [2])]),
  (88, [(.iinc 1 1, 3, []), (.goto (-89), 3, [1])]),
  (94, [(.return_, 1, [])])]
abbrev M_X12_keepNow : Md := (302, 12, 3, none, P_X12_keepNow)
theorem ok_X12_keepNow : k_okM M_X12_keepNow := by unfold k_okM; decide +kernel
def P_X12_bringNow : CB := [(0, [(.iconst 0, 1, []), (.istore_n 1, 1, []), (.nop, 0, [1])]),
  (2, [(.iload_n 1, 1, []), (.aload_n 0, 1, []), (.getfield 202, 3, [12, 26, 0]), (.if_icmp .ge 92, 3, [4]), (.aload_n 0, 1, []), (.getfield 58, 3, [12, 22, 1]), (.iload_n 1, 1, []), (.aload_n 0, 1, []), (.getfield 128, 3, [12, 53, 1]), (.iload_n 1, 1, []), (.iaload, 1, []), (.iastore, 1, []), (.iconst 0, 1, []), (.istore_n 2, 1, []), (.nop, 0, [2])]),
  (24, [(.iload_n 2, 1, []), (.aload_n 0, 1, []), (.getfield 58, 3, [12, 22, 1]), (.iload_n 1, 1, []), (.iaload, 1, []), (.if_icmp .ge 57, 3, [3]), (.aload_n 0, 1, []), (.getfield 61, 3, [12, 23, 1]), (.sipush 2400, 3, []), (.iload_n 1, 1, []), (.imul, 1, []), (.iload_n 2, 1, []), (.iadd, 1, []), (.aload_n 0, 1, []), (.getfield 122, 3, [12, 51, 1]), (.sipush 2400, 3, []), (.iload_n 1, 1, []), (.imul, 1, []), (.iload_n 2, 1, []), (.iadd, 1, []), (.iaload, 1, []), (.iastore, 1, []), (.aload_n 0, 1, []), (.getfield 64, 3, [12, 24, 1]), (.sipush 2400, 3, []), (.iload_n 1, 1, []), (.imul, 1, []), (.iload_n 2, 1, []), (.iadd, 1, []), (.aload_n 0, 1, []), (.getfield 125, 3, [12, 52, 1]), (.sipush 2400, 3, []), (.iload_n 1, 1, []), (.imul, 1, []), (.iload_n 2, 1, []), (.iadd, 1, []), (.iaload, 1, []), (.iastore, 1, []), (.iinc 2 1, 3, []), (.goto (-61), 3, [2])]),
  (88, [(.aload_n 0, 1, []), (.iload_n 1, 1, []), (.invokevirtual 266, 3, [220, 2, 12]), (.iinc 1 1, 3, []), (.goto (-94), 3, [1])]),
  (99, [(.return_, 1, [])])]
abbrev M_X12_bringNow : Md := (303, 12, 3, none, P_X12_bringNow)
theorem ok_X12_bringNow : k_okM M_X12_bringNow := by unfold k_okM; decide +kernel
def P_X12_lengths : CB := [(0, [(.iconst 0, 1, []), (.istore_n 2, 1, []), (.iconst 0, 1, []), (.istore_n 3, 1, []), (.nop, 0, [1])]),
  (4, [(.iload_n 3, 1, []), (.aload_n 0, 1, []), (.getfield 202, 3, [12, 26, 0]), (.if_icmp .ge 36, 3, [4]), (.iload_n 2, 1, []), (.iload_n 1, 1, []), (.ifCond .eq 18, 3, [2]), (.aload_n 0, 1, []), (.getfield 58, 3, [12, 22, 1]), (.iload_n 3, 1, []), (.iaload, 1, []), (.aload_n 0, 1, []), (.iload_n 3, 1, []), (.invokevirtual 378, 3, [261, 2, 12]), (.isub, 1, []), (.goto 8, 3, [3])]),
  (32, [(.aload_n 0, 1, []), (.iload_n 3, 1, []), (.invokevirtual 378, 3, [261, 2, 12]), (.nop, 0, [3])]),
  (37, [(.iadd, 1, []), (.istore_n 2, 1, []), (.iinc 3 1, 3, []), (.goto (-38), 3, [1])]),
  (45, [(.iload_n 2, 1, []), (.ireturn, 1, [])])]
abbrev M_X12_lengths : Md := (304, 12, 4, (some .int), P_X12_lengths)
theorem ok_X12_lengths : k_okM M_X12_lengths := by unfold k_okM; decide +kernel
def P_X12_beside : CB := [(0, [(.iload_n 1, 1, []), (.iconst 1, 1, []), (.bipush 20, 2, []), (.invokestatic 175, 3, [179, 3]), (.ifCond .eq 22, 3, [1]), (.iload_n 2, 1, []), (.iconst 1, 1, []), (.bipush 20, 2, []), (.invokestatic 175, 3, [179, 3]), (.ifCond .eq 12, 3, [1]), (.iload_n 3, 1, []), (.iconst 0, 1, []), (.iconst 5, 1, []), (.invokestatic 175, 3, [179, 3]), (.ifCond .ne 5, 3, [2]), (.nop, 0, [1])]),
  (29, [(.iconst (-1), 1, []), (.ireturn, 1, [])]),
  (31, [(.aload_n 0, 1, []), (.invokevirtual 464, 3, [302, 1, 12]), (.iload_n 3, 1, []), (.iconst 3, 1, []), (.if_icmp .ge 11, 3, [3]), (.aload_n 0, 1, []), (.iload_n 3, 1, []), (.invokevirtual 467, 3, [306, 2, 12]), (.goto 10, 3, [4])]),
  (48, [(.aload_n 0, 1, []), (.iload_n 1, 1, []), (.iload_n 2, 1, []), (.iload_n 3, 1, []), (.invokevirtual 470, 3, [307, 4, 12]), (.nop, 0, [4])]),
  (55, [(.istore 4, 2, []), (.aload_n 0, 1, []), (.invokevirtual 473, 3, [303, 1, 12]), (.iload 4, 2, []), (.ireturn, 1, [])])]
abbrev M_X12_beside : Md := (305, 12, 5, (some .int), P_X12_beside)
theorem ok_X12_beside : k_okM M_X12_beside := by unfold k_okM; decide +kernel
def P_X12_besideOrder : CB := [(0, [(.aload_n 0, 1, []), (.invokevirtual 476, 3, [242, 1, 12]), (.istore_n 2, 1, []), (.iconst 0, 1, []), (.istore_n 3, 1, []), (.iconst 0, 1, []), (.istore 4, 2, []), (.nop, 0, [1])]),
  (10, [(.iload 4, 2, []), (.aload_n 0, 1, []), (.getfield 202, 3, [12, 26, 0]), (.if_icmp .ge 36, 3, [4]), (.iload_n 3, 1, []), (.aload_n 0, 1, []), (.getfield 43, 3, [12, 17, 1]), (.iload 4, 2, []), (.iaload, 1, []), (.ifCond .le 16, 3, [2]), (.iload_n 2, 1, []), (.iload 4, 2, []), (.ishr, 1, []), (.iconst 1, 1, []), (.iand, 1, []), (.ifCond .ne 7, 3, [2]), (.iconst 1, 1, []), (.goto 4, 3, [3])]),
  (43, [(.iconst 0, 1, []), (.nop, 0, [3])]),
  (44, [(.iadd, 1, []), (.istore_n 3, 1, []), (.iinc 4 1, 3, []), (.goto (-39), 3, [1])]),
  (52, [(.iload_n 1, 1, []), (.ifCond .ne 7, 3, [5]), (.iload_n 3, 1, []), (.goto 17, 3, [8])]),
  (60, [(.aload_n 0, 1, []), (.iload_n 1, 1, []), (.iconst 2, 1, []), (.if_icmp .ne 7, 3, [6]), (.iconst 1, 1, []), (.goto 4, 3, [7])]),
  (70, [(.iconst 0, 1, []), (.nop, 0, [7])]),
  (71, [(.invokevirtual 479, 3, [304, 2, 12]), (.nop, 0, [8])]),
  (74, [(.ireturn, 1, [])])]
abbrev M_X12_besideOrder : Md := (306, 12, 5, (some .int), P_X12_besideOrder)
theorem ok_X12_besideOrder : k_okM M_X12_besideOrder := by unfold k_okM; decide +kernel
def P_X12_besidePress : CB := [(0, [(.aload_n 0, 1, []), (.iload_n 1, 1, []), (.iload_n 2, 1, []), (.invokevirtual 483, 3, [249, 3, 12]), (.iconst (-1), 1, []), (.if_icmp .eq 7, 3, [1]), (.iconst 1, 1, []), (.goto 4, 3, [2])]),
  (14, [(.iconst 0, 1, []), (.nop, 0, [2])]),
  (15, [(.istore 4, 2, []), (.iload_n 3, 1, []), (.iconst 3, 1, []), (.if_icmp .ne 16, 3, [4]), (.iload 4, 2, []), (.ifCond .eq 7, 3, [3]), (.iconst 1, 1, []), (.goto 30, 3, [8])]),
  (31, [(.iconst 0, 1, []), (.goto 26, 3, [8])]),
  (35, [(.iload 4, 2, []), (.ifCond .eq 20, 3, [7]), (.aload_n 0, 1, []), (.iload_n 3, 1, []), (.iconst 5, 1, []), (.if_icmp .ne 7, 3, [5]), (.iconst 1, 1, []), (.goto 4, 3, [6])]),
  (50, [(.iconst 0, 1, []), (.nop, 0, [6])]),
  (51, [(.invokevirtual 479, 3, [304, 2, 12]), (.goto 4, 3, [8])]),
  (57, [(.iconst (-1), 1, []), (.nop, 0, [8])]),
  (58, [(.ireturn, 1, [])])]
abbrev M_X12_besidePress : Md := (307, 12, 5, (some .int), P_X12_besidePress)
theorem ok_X12_besidePress : k_okM M_X12_besidePress := by unfold k_okM; decide +kernel
def P_X12_why : CB := [(0, [(.aload_n 0, 1, []), (.iload_n 1, 1, []), (.invokevirtual 220, 3, [198, 2, 12]), (.ifCond .eq 12, 3, [1]), (.aload_n 0, 1, []), (.getfield 43, 3, [12, 17, 1]), (.iload_n 1, 1, []), (.iaload, 1, []), (.ifCond .ne 5, 3, [2]), (.nop, 0, [1])]),
  (17, [(.iconst (-1), 1, []), (.ireturn, 1, [])]),
  (19, [(.aload_n 0, 1, []), (.iconst 0, 1, []), (.invokevirtual 309, 3, [236, 2, 12]), (.iconst (-1), 1, []), (.istore_n 2, 1, []), (.iconst 0, 1, []), (.istore_n 3, 1, []), (.nop, 0, [3])]),
  (28, [(.iload_n 3, 1, []), (.iconst 1, 1, []), (.aload_n 0, 1, []), (.getfield 202, 3, [12, 26, 0]), (.ishl, 1, []), (.if_icmp .ge 49, 3, [8]), (.iload_n 3, 1, []), (.iload_n 1, 1, []), (.ishr, 1, []), (.iconst 1, 1, []), (.iand, 1, []), (.iconst 1, 1, []), (.if_icmp .eq 34, 3, [7]), (.iload_n 3, 1, []), (.iload_n 2, 1, []), (.invokestatic 363, 3, [255, 2]), (.ifCond .ne 6, 3, [4]), (.goto 23, 3, [7])]),
  (58, [(.aload_n 0, 1, []), (.iload_n 3, 1, []), (.putfield 240, 3, [12, 28, 0]), (.aload_n 0, 1, []), (.iload_n 1, 1, []), (.invokevirtual 316, 3, [238, 2, 12]), (.iconst (-1), 1, []), (.if_icmp .eq 7, 3, [5]), (.iload_n 3, 1, []), (.goto 4, 3, [6])]),
  (76, [(.iload_n 2, 1, []), (.nop, 0, [6])]),
  (77, [(.istore_n 2, 1, []), (.nop, 0, [7])]),
  (78, [(.iinc 3 1, 3, []), (.goto (-53), 3, [3])]),
  (84, [(.aload_n 0, 1, []), (.iconst 1, 1, []), (.invokevirtual 309, 3, [236, 2, 12]), (.iload_n 2, 1, []), (.ireturn, 1, [])])]
abbrev M_X12_why : Md := (308, 12, 4, (some .int), P_X12_why)
theorem ok_X12_why : k_okM M_X12_why := by unfold k_okM; decide +kernel
def P_X12_wasThere : CB := [(0, [(.aload_n 0, 1, []), (.getfield 61, 3, [12, 23, 1]), (.sipush 2400, 3, []), (.iload_n 1, 1, []), (.imul, 1, []), (.iload_n 2, 1, []), (.iadd, 1, []), (.iaload, 1, []), (.istore_n 3, 1, []), (.aload_n 0, 1, []), (.getfield 64, 3, [12, 24, 1]), (.sipush 2400, 3, []), (.iload_n 1, 1, []), (.imul, 1, []), (.iload_n 2, 1, []), (.iadd, 1, []), (.iaload, 1, []), (.istore 4, 2, []), (.iconst 0, 1, []), (.istore 5, 2, []), (.nop, 0, [1])]),
  (30, [(.iload 5, 2, []), (.aload_n 0, 1, []), (.getfield 128, 3, [12, 53, 1]), (.iload_n 1, 1, []), (.iaload, 1, []), (.if_icmp .ge 67, 3, [5]), (.aload_n 0, 1, []), (.getfield 122, 3, [12, 51, 1]), (.sipush 2400, 3, []), (.iload_n 1, 1, []), (.imul, 1, []), (.iload 5, 2, []), (.iadd, 1, []), (.iaload, 1, []), (.istore 6, 2, []), (.aload_n 0, 1, []), (.getfield 125, 3, [12, 52, 1]), (.sipush 2400, 3, []), (.iload_n 1, 1, []), (.imul, 1, []), (.iload 5, 2, []), (.iadd, 1, []), (.iaload, 1, []), (.istore 7, 2, []), (.iload 6, 2, []), (.iload_n 3, 1, []), (.if_icmp .ne 10, 3, [2]), (.iload 7, 2, []), (.iload 4, 2, []), (.if_icmp .eq 16, 3, [3]), (.nop, 0, [2])]),
  (84, [(.iload 6, 2, []), (.iload 4, 2, []), (.if_icmp .ne 11, 3, [4]), (.iload 7, 2, []), (.iload_n 3, 1, []), (.if_icmp .ne 5, 3, [4]), (.nop, 0, [3])]),
  (97, [(.iconst 1, 1, []), (.ireturn, 1, [])]),
  (99, [(.iinc 5 1, 3, []), (.goto (-72), 3, [1])]),
  (105, [(.iconst 0, 1, []), (.ireturn, 1, [])])]
abbrev M_X12_wasThere : Md := (309, 12, 8, (some .boolean), P_X12_wasThere)
theorem ok_X12_wasThere : k_okM M_X12_wasThere := by unfold k_okM; decide +kernel
