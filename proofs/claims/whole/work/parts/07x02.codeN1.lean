/-! code as data (written by wip/whole/gencode.py) -/
def P_X0_turnsAway : CB := [(0, [(.iconst 0, 1, []), (.istore_n 3, 1, []), (.iconst 0, 1, []), (.istore 4, 2, []), (.nop, 0, [1])]),
  (5, [(.iload 4, 2, []), (.aload_n 0, 1, []), (.getfield 9, 3, [0, 0, 1]), (.getfield 35, 3, [2, 4, 0]), (.if_icmp .ge 115, 3, [8]), (.iconst 1, 1, []), (.istore 5, 2, []), (.nop, 0, [2])]),
  (20, [(.iload 5, 2, []), (.iconst 2, 1, []), (.if_icmp .gt 100, 3, [7]), (.aload_n 0, 1, []), (.getfield 9, 3, [0, 0, 1]), (.getfield 79, 3, [2, 5, 1]), (.iload 4, 2, []), (.bipush 6, 2, []), (.imul, 1, []), (.iload 5, 2, []), (.iadd, 1, []), (.iaload, 1, []), (.istore 6, 2, []), (.aload_n 0, 1, []), (.getfield 15, 3, [0, 1, 1]), (.getfield 130, 3, [3, 10, 1]), (.iload_n 1, 1, []), (.aload_n 0, 1, []), (.getfield 9, 3, [0, 0, 1]), (.getfield 35, 3, [2, 4, 0]), (.imul, 1, []), (.iload 4, 2, []), (.iadd, 1, []), (.iaload, 1, []), (.iload 5, 2, []), (.ishr, 1, []), (.iconst 1, 1, []), (.iand, 1, []), (.ifCond .eq 13, 3, [3]), (.iload 6, 2, []), (.iconst (-1), 1, []), (.if_icmp .eq 7, 3, [3]), (.iconst 1, 1, []), (.goto 4, 3, [4])]),
  (82, [(.iconst 0, 1, []), (.nop, 0, [4])]),
  (83, [(.istore 7, 2, []), (.iload_n 3, 1, []), (.iload 7, 2, []), (.ifCond .eq 26, 3, [5]), (.aload_n 0, 1, []), (.iload_n 1, 1, []), (.iload_n 2, 1, []), (.iload 4, 2, []), (.invokevirtual 126, 3, [14, 4, 0]), (.aload_n 0, 1, []), (.iload_n 1, 1, []), (.iload_n 2, 1, []), (.iload 6, 2, []), (.invokevirtual 126, 3, [14, 4, 0]), (.if_icmp .eq 7, 3, [5]), (.iconst 1, 1, []), (.goto 4, 3, [6])]),
  (114, [(.iconst 0, 1, []), (.nop, 0, [6])]),
  (115, [(.iadd, 1, []), (.istore_n 3, 1, []), (.iinc 5 1, 3, []), (.goto (-100), 3, [2])]),
  (123, [(.iinc 4 1, 3, []), (.goto (-121), 3, [1])]),
  (129, [(.iload_n 3, 1, []), (.ireturn, 1, [])])]
abbrev M_X0_turnsAway : Md := (16, 0, 8, (some .int), P_X0_turnsAway)
theorem ok_X0_turnsAway : k_okM M_X0_turnsAway := by unfold k_okM; decide +kernel
def P_X1_cutOf : CB := [(0, [(.aload_n 0, 1, []), (.getfield 19, 3, [1, 2, 1]), (.iload_n 1, 1, []), (.iconst 0, 1, []), (.invokevirtual 27, 3, [77, 3, 6]), (.aload_n 0, 1, []), (.getfield 19, 3, [1, 2, 1]), (.iconst 0, 1, []), (.invokevirtual 33, 3, [81, 2, 6]), (.aload_n 0, 1, []), (.getfield 19, 3, [1, 2, 1]), (.aload_n 0, 1, []), (.getfield 15, 3, [1, 1, 1]), (.iload_n 1, 1, []), (.iconst 0, 1, []), (.invokevirtual 37, 3, [36, 3, 3]), (.bipush 6, 2, []), (.invokevirtual 43, 3, [84, 3, 6]), (.istore_n 3, 1, []), (.iload_n 2, 1, []), (.ifCond .ne 5, 3, [1]), (.iload_n 3, 1, []), (.ireturn, 1, [])]),
  (42, [(.iload_n 2, 1, []), (.iconst 1, 1, []), (.if_icmp .ne 12, 3, [2]), (.aload_n 0, 1, []), (.getfield 19, 3, [1, 2, 1]), (.iload_n 1, 1, []), (.invokevirtual 46, 3, [86, 2, 6]), (.ireturn, 1, [])]),
  (56, [(.iconst 0, 1, []), (.istore 4, 2, []), (.iconst 0, 1, []), (.istore 5, 2, []), (.iconst 0, 1, []), (.istore 6, 2, []), (.nop, 0, [3])]),
  (65, [(.iload 6, 2, []), (.aload_n 0, 1, []), (.getfield 9, 3, [1, 0, 1]), (.getfield 50, 3, [2, 4, 0]), (.if_icmp .ge 101, 3, [9]), (.aload_n 0, 1, []), (.iload 6, 2, []), (.invokevirtual 56, 3, [19, 2, 1]), (.ifCond .eq 86, 3, [8]), (.iinc 4 1, 3, []), (.aload_n 0, 1, []), (.getfield 15, 3, [1, 1, 1]), (.iload_n 1, 1, []), (.iconst 4, 1, []), (.invokevirtual 60, 3, [34, 3, 3]), (.aload_n 0, 1, []), (.getfield 9, 3, [1, 0, 1]), (.getfield 63, 3, [2, 8, 1]), (.iload 6, 2, []), (.iaload, 1, []), (.ishr, 1, []), (.iconst 1, 1, []), (.iand, 1, []), (.ifCond .eq 7, 3, [4]), (.iconst 1, 1, []), (.goto 4, 3, [5])]),
  (118, [(.iconst 0, 1, []), (.nop, 0, [5])]),
  (119, [(.istore 7, 2, []), (.iload 5, 2, []), (.iload 7, 2, []), (.ifCond .eq 40, 3, [6]), (.aload_n 0, 1, []), (.getfield 15, 3, [1, 1, 1]), (.getfield 67, 3, [3, 6, 1]), (.iload 6, 2, []), (.iaload, 1, []), (.ifCond .ne 27, 3, [6]), (.aload_n 0, 1, []), (.getfield 19, 3, [1, 2, 1]), (.getfield 70, 3, [6, 2, 1]), (.iload 6, 2, []), (.iaload, 1, []), (.aload_n 0, 1, []), (.getfield 19, 3, [1, 2, 1]), (.getfield 73, 3, [6, 3, 1]), (.iload 6, 2, []), (.iaload, 1, []), (.ior, 1, []), (.goto 4, 3, [7])]),
  (165, [(.iconst 0, 1, []), (.nop, 0, [7])]),
  (166, [(.ior, 1, []), (.istore 5, 2, []), (.nop, 0, [8])]),
  (169, [(.iinc 6 1, 3, []), (.goto (-107), 3, [3])]),
  (175, [(.iload_n 2, 1, []), (.iconst 2, 1, []), (.if_icmp .ne 8, 3, [10]), (.iload 4, 2, []), (.goto 5, 3, [11])]),
  (185, [(.iload 5, 2, []), (.nop, 0, [11])]),
  (187, [(.ireturn, 1, [])])]
abbrev M_X1_cutOf : Md := (18, 1, 8, (some .int), P_X1_cutOf)
theorem ok_X1_cutOf : k_okM M_X1_cutOf := by unfold k_okM; decide +kernel
def P_X1_isWall : CB := [(0, [(.aload_n 0, 1, []), (.getfield 19, 3, [1, 2, 1]), (.getfield 76, 3, [6, 6, 1]), (.iload_n 1, 1, []), (.iaload, 1, []), (.ifCond .eq 5, 3, [1]), (.iconst 0, 1, []), (.ireturn, 1, [])]),
  (14, [(.iconst 0, 1, []), (.istore_n 2, 1, []), (.nop, 0, [2])]),
  (16, [(.iload_n 2, 1, []), (.bipush 6, 2, []), (.if_icmp .ge 43, 3, [4]), (.aload_n 0, 1, []), (.getfield 9, 3, [1, 0, 1]), (.getfield 79, 3, [2, 5, 1]), (.iload_n 1, 1, []), (.bipush 6, 2, []), (.imul, 1, []), (.iload_n 2, 1, []), (.iadd, 1, []), (.iaload, 1, []), (.istore_n 3, 1, []), (.iload_n 3, 1, []), (.iconst (-1), 1, []), (.if_icmp .eq 17, 3, [3]), (.aload_n 0, 1, []), (.getfield 19, 3, [1, 2, 1]), (.getfield 76, 3, [6, 6, 1]), (.iload_n 3, 1, []), (.iaload, 1, []), (.ifCond .eq 5, 3, [3]), (.iconst 1, 1, []), (.ireturn, 1, [])]),
  (56, [(.iinc 2 1, 3, []), (.goto (-43), 3, [2])]),
  (62, [(.iconst 0, 1, []), (.ireturn, 1, [])])]
abbrev M_X1_isWall : Md := (19, 1, 4, (some .boolean), P_X1_isWall)
theorem ok_X1_isWall : k_okM M_X1_isWall := by unfold k_okM; decide +kernel
def P_X1_setAt : CB := [(0, [(.iload_n 0, 1, []), (.invokestatic 82, 3, [316, 1]), (.iload_n 1, 1, []), (.if_icmp .eq 5, 3, [1]), (.iconst (-1), 1, []), (.ireturn, 1, [])]),
  (10, [(.iconst 0, 1, []), (.istore_n 3, 1, []), (.iconst 0, 1, []), (.istore 4, 2, []), (.nop, 0, [2])]),
  (15, [(.iload 4, 2, []), (.bipush 8, 2, []), (.if_icmp .ge 24, 3, [3]), (.iload_n 3, 1, []), (.iload_n 0, 1, []), (.bipush 7, 2, []), (.iload 4, 2, []), (.isub, 1, []), (.ishr, 1, []), (.iconst 1, 1, []), (.iand, 1, []), (.iload 4, 2, []), (.ishl, 1, []), (.ior, 1, []), (.istore_n 3, 1, []), (.iinc 4 1, 3, []), (.goto (-25), 3, [2])]),
  (43, [(.iload_n 3, 1, []), (.iload_n 2, 1, []), (.iconst (-1), 1, []), (.ixor, 1, []), (.iand, 1, []), (.ifCond .ne 7, 3, [4]), (.iload_n 3, 1, []), (.goto 4, 3, [5])]),
  (55, [(.iconst (-1), 1, []), (.nop, 0, [5])]),
  (56, [(.ireturn, 1, [])])]
abbrev M_X1_setAt : Md := (20, 1, 5, (some .int), P_X1_setAt)
theorem ok_X1_setAt : k_okM M_X1_setAt := by unfold k_okM; decide +kernel
def P_X1_othersWithTraces : CB := [(0, [(.iconst 0, 1, []), (.istore_n 2, 1, []), (.iconst 0, 1, []), (.istore_n 3, 1, []), (.nop, 0, [1])]),
  (4, [(.iload_n 3, 1, []), (.aload_n 0, 1, []), (.getfield 9, 3, [1, 0, 1]), (.getfield 50, 3, [2, 4, 0]), (.if_icmp .ge 21, 3, [2]), (.iload_n 2, 1, []), (.aload_n 0, 1, []), (.getfield 15, 3, [1, 1, 1]), (.getfield 87, 3, [3, 8, 1]), (.iload_n 3, 1, []), (.iaload, 1, []), (.ior, 1, []), (.istore_n 2, 1, []), (.iinc 3 1, 3, []), (.goto (-26), 3, [1])]),
  (33, [(.iload_n 2, 1, []), (.iconst 1, 1, []), (.iload_n 1, 1, []), (.ishl, 1, []), (.iconst (-1), 1, []), (.ixor, 1, []), (.iand, 1, []), (.ireturn, 1, [])])]
abbrev M_X1_othersWithTraces : Md := (21, 1, 4, (some .int), P_X1_othersWithTraces)
theorem ok_X1_othersWithTraces : k_okM M_X1_othersWithTraces := by unfold k_okM; decide +kernel
def P_X1_fewestBars : CB := [(0, [(.aload_n 0, 1, []), (.getfield 19, 3, [1, 2, 1]), (.iload_n 1, 1, []), (.iconst 0, 1, []), (.invokevirtual 27, 3, [77, 3, 6]), (.aload_n 0, 1, []), (.getfield 19, 3, [1, 2, 1]), (.sipush 255, 3, []), (.invokevirtual 33, 3, [81, 2, 6]), (.aload_n 0, 1, []), (.getfield 19, 3, [1, 2, 1]), (.iload_n 1, 1, []), (.iload_n 2, 1, []), (.invokevirtual 90, 3, [87, 3, 6]), (.ifCond .ne 5, 3, [1]), (.iconst (-1), 1, []), (.ireturn, 1, [])]),
  (33, [(.aload_n 0, 1, []), (.iload_n 1, 1, []), (.invokevirtual 94, 3, [21, 2, 1]), (.istore_n 3, 1, []), (.iconst 0, 1, []), (.istore 4, 2, []), (.nop, 0, [2])]),
  (42, [(.iload 4, 2, []), (.iload_n 3, 1, []), (.invokestatic 82, 3, [316, 1]), (.if_icmp .gt 55, 3, [6]), (.sipush 255, 3, []), (.istore 5, 2, []), (.nop, 0, [3])]),
  (56, [(.iload 5, 2, []), (.ifCond .lt 39, 3, [5]), (.iload 5, 2, []), (.iload 4, 2, []), (.iload_n 3, 1, []), (.invokestatic 97, 3, [20, 3]), (.istore 6, 2, []), (.iload 6, 2, []), (.iconst (-1), 1, []), (.if_icmp .eq 17, 3, [4]), (.aload_n 0, 1, []), (.iload_n 1, 1, []), (.iload 6, 2, []), (.iload_n 2, 1, []), (.invokevirtual 101, 3, [317, 4, 1]), (.ifCond .eq 6, 3, [4]), (.iload 6, 2, []), (.ireturn, 1, [])]),
  (91, [(.iinc 5 (-1), 3, []), (.goto (-38), 3, [3])]),
  (97, [(.iinc 4 1, 3, []), (.goto (-58), 3, [2])]),
  (103, [(.iconst (-1), 1, []), (.ireturn, 1, [])])]
abbrev M_X1_fewestBars : Md := (22, 1, 7, (some .int), P_X1_fewestBars)
theorem ok_X1_fewestBars : k_okM M_X1_fewestBars := by unfold k_okM; decide +kernel
def P_X1_whyVias : CB := [(0, [(.aload_n 0, 1, []), (.getfield 15, 3, [1, 1, 1]), (.iload_n 1, 1, []), (.invokevirtual 105, 3, [50, 2, 3]), (.ifCond .eq 11, 3, [1]), (.aload_n 0, 1, []), (.iload_n 1, 1, []), (.invokevirtual 108, 3, [24, 2, 1]), (.goto 9, 3, [2])]),
  (19, [(.aload_n 0, 1, []), (.iload_n 1, 1, []), (.iconst 4, 1, []), (.invokevirtual 111, 3, [22, 3, 1]), (.nop, 0, [2])]),
  (25, [(.ireturn, 1, [])])]
abbrev M_X1_whyVias : Md := (23, 1, 2, (some .int), P_X1_whyVias)
theorem ok_X1_whyVias : k_okM M_X1_whyVias := by unfold k_okM; decide +kernel
def P_X1_fewestByRows : CB := [(0, [(.aload_n 0, 1, []), (.iload_n 1, 1, []), (.bipush 6, 2, []), (.invokevirtual 111, 3, [22, 3, 1]), (.iconst (-1), 1, []), (.if_icmp .ne 5, 3, [1]), (.iconst (-1), 1, []), (.ireturn, 1, [])]),
  (13, [(.aload_n 0, 1, []), (.iload_n 1, 1, []), (.invokevirtual 94, 3, [21, 2, 1]), (.istore_n 2, 1, []), (.iconst (-1), 1, []), (.istore_n 3, 1, []), (.aload_n 0, 1, []), (.getfield 15, 3, [1, 1, 1]), (.invokevirtual 114, 3, [57, 1, 3]), (.iconst 0, 1, []), (.istore 4, 2, []), (.nop, 0, [2])]),
  (31, [(.iload 4, 2, []), (.iload_n 2, 1, []), (.invokestatic 82, 3, [316, 1]), (.if_icmp .gt 64, 3, [6]), (.iload_n 3, 1, []), (.iconst (-1), 1, []), (.if_icmp .ne 59, 3, [6]), (.sipush 255, 3, []), (.istore 5, 2, []), (.nop, 0, [3])]),
  (50, [(.iload 5, 2, []), (.ifCond .lt 43, 3, [5]), (.iload_n 3, 1, []), (.iconst (-1), 1, []), (.if_icmp .ne 38, 3, [5]), (.iload 5, 2, []), (.iload 4, 2, []), (.iload_n 2, 1, []), (.invokestatic 97, 3, [20, 3]), (.istore 6, 2, []), (.iload 6, 2, []), (.iconst (-1), 1, []), (.if_icmp .eq 16, 3, [4]), (.aload_n 0, 1, []), (.iload_n 1, 1, []), (.iload 6, 2, []), (.invokevirtual 117, 3, [25, 3, 1]), (.ifCond .eq 6, 3, [4]), (.iload 6, 2, []), (.istore_n 3, 1, []), (.nop, 0, [4])]),
  (89, [(.iinc 5 (-1), 3, []), (.goto (-42), 3, [3])]),
  (95, [(.iinc 4 1, 3, []), (.goto (-67), 3, [2])]),
  (101, [(.aload_n 0, 1, []), (.getfield 15, 3, [1, 1, 1]), (.invokevirtual 120, 3, [58, 1, 3]), (.iload_n 3, 1, []), (.ireturn, 1, [])])]
abbrev M_X1_fewestByRows : Md := (24, 1, 7, (some .int), P_X1_fewestByRows)
theorem ok_X1_fewestByRows : k_okM M_X1_fewestByRows := by unfold k_okM; decide +kernel
def P_X1_layFlat : CB := [(0, [(.aload_n 0, 1, []), (.getfield 15, 3, [1, 1, 1]), (.iload_n 1, 1, []), (.invokevirtual 123, 3, [44, 2, 3]), (.aload_n 0, 1, []), (.getfield 19, 3, [1, 2, 1]), (.iload_n 2, 1, []), (.invokevirtual 33, 3, [81, 2, 6]), (.aload_n 0, 1, []), (.getfield 19, 3, [1, 2, 1]), (.iload_n 1, 1, []), (.bipush 6, 2, []), (.invokevirtual 90, 3, [87, 3, 6]), (.ifCond .eq 20, 3, [1]), (.aload_n 0, 1, []), (.getfield 23, 3, [1, 3, 1]), (.iload_n 1, 1, []), (.iconst 0, 1, []), (.invokevirtual 126, 3, [91, 3, 7]), (.iconst (-1), 1, []), (.if_icmp .eq 7, 3, [1]), (.iconst 1, 1, []), (.goto 4, 3, [2])]),
  (46, [(.iconst 0, 1, []), (.nop, 0, [2])]),
  (47, [(.ireturn, 1, [])])]
abbrev M_X1_layFlat : Md := (25, 1, 3, (some .boolean), P_X1_layFlat)
theorem ok_X1_layFlat : k_okM M_X1_layFlat := by unfold k_okM; decide +kernel
def P_X1_moveLate : CB := [(0, [(.aload_n 0, 1, []), (.getfield 15, 3, [1, 1, 1]), (.iload_n 1, 1, []), (.iload_n 2, 1, []), (.invokevirtual 37, 3, [36, 3, 3]), (.istore 4, 2, []), (.aload_n 0, 1, []), (.getfield 15, 3, [1, 1, 1]), (.invokevirtual 114, 3, [57, 1, 3]), (.aload_n 0, 1, []), (.getfield 15, 3, [1, 1, 1]), (.iload_n 1, 1, []), (.iload_n 2, 1, []), (.iload_n 3, 1, []), (.invokevirtual 132, 3, [38, 4, 3]), (.iconst 1, 1, []), (.aload_n 0, 1, []), (.getfield 15, 3, [1, 1, 1]), (.getfield 136, 3, [3, 14, 0]), (.ishl, 1, []), (.iconst 1, 1, []), (.isub, 1, []), (.iconst 1, 1, []), (.iload_n 1, 1, []), (.ishl, 1, []), (.iconst (-1), 1, []), (.ixor, 1, []), (.iand, 1, []), (.istore 5, 2, []), (.iconst 0, 1, []), (.istore 6, 2, []), (.nop, 0, [1])]),
  (50, [(.iload 6, 2, []), (.iconst 3, 1, []), (.if_icmp .gt 55, 3, [5]), (.sipush 255, 3, []), (.istore 7, 2, []), (.nop, 0, [2])]),
  (61, [(.iload 7, 2, []), (.ifCond .lt 39, 3, [4]), (.iload 7, 2, []), (.iload 6, 2, []), (.iload 5, 2, []), (.invokestatic 97, 3, [20, 3]), (.istore 8, 2, []), (.iload 8, 2, []), (.iconst (-1), 1, []), (.if_icmp .eq 16, 3, [3]), (.aload_n 0, 1, []), (.iload_n 1, 1, []), (.iload 8, 2, []), (.invokevirtual 139, 3, [27, 3, 1]), (.ifCond .eq 6, 3, [3]), (.iload 8, 2, []), (.ireturn, 1, [])]),
  (96, [(.iinc 7 (-1), 3, []), (.goto (-38), 3, [2])]),
  (102, [(.iinc 6 1, 3, []), (.goto (-55), 3, [1])]),
  (108, [(.aload_n 0, 1, []), (.getfield 15, 3, [1, 1, 1]), (.invokevirtual 120, 3, [58, 1, 3]), (.aload_n 0, 1, []), (.getfield 15, 3, [1, 1, 1]), (.iload_n 1, 1, []), (.iload_n 2, 1, []), (.iload 4, 2, []), (.invokevirtual 132, 3, [38, 4, 3]), (.iconst (-1), 1, []), (.ireturn, 1, [])])]
abbrev M_X1_moveLate : Md := (26, 1, 9, (some .int), P_X1_moveLate)
theorem ok_X1_moveLate : k_okM M_X1_moveLate := by unfold k_okM; decide +kernel
def P_X1_layWith : CB := [(0, [(.aload_n 0, 1, []), (.getfield 15, 3, [1, 1, 1]), (.invokevirtual 120, 3, [58, 1, 3]), (.aload_n 0, 1, []), (.getfield 15, 3, [1, 1, 1]), (.iload_n 1, 1, []), (.invokevirtual 123, 3, [44, 2, 3]), (.iconst 0, 1, []), (.istore_n 3, 1, []), (.nop, 0, [1])]),
  (17, [(.iload_n 3, 1, []), (.aload_n 0, 1, []), (.getfield 15, 3, [1, 1, 1]), (.getfield 136, 3, [3, 14, 0]), (.if_icmp .ge 25, 3, [3]), (.iload_n 2, 1, []), (.iload_n 3, 1, []), (.ishr, 1, []), (.iconst 1, 1, []), (.iand, 1, []), (.ifCond .eq 11, 3, [2]), (.aload_n 0, 1, []), (.getfield 15, 3, [1, 1, 1]), (.iload_n 3, 1, []), (.invokevirtual 123, 3, [44, 2, 3]), (.nop, 0, [2])]),
  (44, [(.iinc 3 1, 3, []), (.goto (-30), 3, [1])]),
  (50, [(.aload_n 0, 1, []), (.getfield 23, 3, [1, 3, 1]), (.iload_n 1, 1, []), (.invokevirtual 142, 3, [89, 2, 7]), (.iconst (-1), 1, []), (.if_icmp .eq 7, 3, [4]), (.iconst 1, 1, []), (.goto 4, 3, [5])]),
  (66, [(.iconst 0, 1, []), (.nop, 0, [5])]),
  (67, [(.istore_n 3, 1, []), (.iconst 0, 1, []), (.istore 4, 2, []), (.nop, 0, [6])]),
  (71, [(.iload 4, 2, []), (.aload_n 0, 1, []), (.getfield 15, 3, [1, 1, 1]), (.getfield 136, 3, [3, 14, 0]), (.if_icmp .ge 41, 3, [10]), (.iload_n 3, 1, []), (.ifCond .eq 37, 3, [10]), (.iload_n 2, 1, []), (.iload 4, 2, []), (.ishr, 1, []), (.iconst 1, 1, []), (.iand, 1, []), (.ifCond .eq 22, 3, [9]), (.aload_n 0, 1, []), (.getfield 23, 3, [1, 3, 1]), (.iload 4, 2, []), (.invokevirtual 142, 3, [89, 2, 7]), (.iconst (-1), 1, []), (.if_icmp .eq 7, 3, [7]), (.iconst 1, 1, []), (.goto 4, 3, [8])]),
  (113, [(.iconst 0, 1, []), (.nop, 0, [8])]),
  (114, [(.istore_n 3, 1, []), (.nop, 0, [9])]),
  (115, [(.iinc 4 1, 3, []), (.goto (-47), 3, [6])]),
  (121, [(.iload_n 3, 1, []), (.ireturn, 1, [])])]
abbrev M_X1_layWith : Md := (27, 1, 5, (some .boolean), P_X1_layWith)
theorem ok_X1_layWith : k_okM M_X1_layWith := by unfold k_okM; decide +kernel
def P_X2_cellAt : CB := [(0, [(.iload_n 1, 1, []), (.ifCond .lt 35, 3, [1]), (.iload_n 1, 1, []), (.aload_n 0, 1, []), (.getfield 9, 3, [2, 0, 0]), (.if_icmp .ge 27, 3, [1]), (.iload_n 2, 1, []), (.ifCond .lt 23, 3, [1]), (.iload_n 2, 1, []), (.aload_n 0, 1, []), (.getfield 15, 3, [2, 1, 0]), (.if_icmp .ge 15, 3, [1]), (.iload_n 3, 1, []), (.ifCond .lt 11, 3, [1]), (.iload_n 3, 1, []), (.aload_n 0, 1, []), (.getfield 18, 3, [2, 2, 0]), (.if_icmp .lt 5, 3, [2]), (.nop, 0, [1])]),
  (36, [(.iconst (-1), 1, []), (.ireturn, 1, [])]),
  (38, [(.iload_n 3, 1, []), (.aload_n 0, 1, []), (.getfield 21, 3, [2, 3, 0]), (.imul, 1, []), (.iload_n 2, 1, []), (.aload_n 0, 1, []), (.getfield 9, 3, [2, 0, 0]), (.imul, 1, []), (.iadd, 1, []), (.iload_n 1, 1, []), (.iadd, 1, []), (.ireturn, 1, [])])]
abbrev M_X2_cellAt : Md := (29, 2, 4, (some .int), P_X2_cellAt)
theorem ok_X2_cellAt : k_okM M_X2_cellAt := by unfold k_okM; decide +kernel
def P_X2_allLayers : CB := [(0, [(.iconst 1, 1, []), (.aload_n 0, 1, []), (.getfield 18, 3, [2, 2, 0]), (.ishl, 1, []), (.iconst 1, 1, []), (.isub, 1, []), (.ireturn, 1, [])])]
abbrev M_X2_allLayers : Md := (30, 2, 1, (some .int), P_X2_allLayers)
theorem ok_X2_allLayers : k_okM M_X2_allLayers := by unfold k_okM; decide +kernel
def P_X3_addSort : CB := [(0, [(.aload_n 1, 1, []), (.iconst 0, 1, []), (.aload_n 0, 1, []), (.getfield 9, 3, [3, 1, 1]), (.aload_n 0, 1, []), (.getfield 58, 3, [3, 13, 0]), (.iconst 5, 1, []), (.imul, 1, []), (.iconst 5, 1, []), (.invokestatic 61, 3, []), (.aload_n 0, 1, []), (.dup, 1, []), (.getfield 58, 3, [3, 13, 0]), (.iconst 1, 1, []), (.iadd, 1, []), (.putfield 58, 3, [3, 13, 0]), (.aload_n 0, 1, []), (.getfield 58, 3, [3, 13, 0]), (.iconst 1, 1, []), (.isub, 1, []), (.ireturn, 1, [])])]
abbrev M_X3_addSort : Md := (32, 3, 2, (some .int), P_X3_addSort)
theorem ok_X3_addSort : k_okM M_X3_addSort := by unfold k_okM; decide +kernel
def P_X3_addNet : CB := [(0, [(.aload_n 0, 1, []), (.getfield 15, 3, [3, 2, 1]), (.aload_n 0, 1, []), (.getfield 67, 3, [3, 14, 0]), (.iload_n 1, 1, []), (.iastore, 1, []), (.aload_n 0, 1, []), (.dup, 1, []), (.getfield 67, 3, [3, 14, 0]), (.iconst 1, 1, []), (.iadd, 1, []), (.putfield 67, 3, [3, 14, 0]), (.aload_n 0, 1, []), (.getfield 67, 3, [3, 14, 0]), (.iconst 1, 1, []), (.isub, 1, []), (.ireturn, 1, [])])]
abbrev M_X3_addNet : Md := (33, 3, 2, (some .int), P_X3_addNet)
theorem ok_X3_addNet : k_okM M_X3_addNet := by unfold k_okM; decide +kernel
def P_X3_setting : CB := [(0, [(.aload_n 0, 1, []), (.getfield 9, 3, [3, 1, 1]), (.aload_n 0, 1, []), (.getfield 15, 3, [3, 2, 1]), (.iload_n 1, 1, []), (.iaload, 1, []), (.iconst 5, 1, []), (.imul, 1, []), (.iload_n 2, 1, []), (.iadd, 1, []), (.iaload, 1, []), (.ireturn, 1, [])])]
abbrev M_X3_setting : Md := (34, 3, 3, (some .int), P_X3_setting)
theorem ok_X3_setting : k_okM M_X3_setting := by unfold k_okM; decide +kernel
def P_X3_hasPin : CB := [(0, [(.iconst 0, 1, []), (.istore_n 2, 1, []), (.nop, 0, [1])]),
  (2, [(.iload_n 2, 1, []), (.aload_n 0, 1, []), (.getfield 67, 3, [3, 14, 0]), (.if_icmp .ge 39, 3, [5]), (.iconst 0, 1, []), (.istore_n 3, 1, []), (.nop, 0, [2])]),
  (12, [(.iload_n 3, 1, []), (.aload_n 0, 1, []), (.getfield 21, 3, [3, 4, 1]), (.iload_n 2, 1, []), (.iaload, 1, []), (.if_icmp .ge 21, 3, [4]), (.aload_n 0, 1, []), (.iload_n 2, 1, []), (.iload_n 3, 1, []), (.invokevirtual 70, 3, [36, 3, 3]), (.iload_n 1, 1, []), (.if_icmp .ne 5, 3, [3]), (.iconst 1, 1, []), (.ireturn, 1, [])]),
  (34, [(.iinc 3 1, 3, []), (.goto (-25), 3, [2])]),
  (40, [(.iinc 2 1, 3, []), (.goto (-41), 3, [1])]),
  (46, [(.iconst 0, 1, []), (.ireturn, 1, [])])]
abbrev M_X3_hasPin : Md := (35, 3, 4, (some .boolean), P_X3_hasPin)
theorem ok_X3_hasPin : k_okM M_X3_hasPin := by unfold k_okM; decide +kernel
def P_X3_pinCell : CB := [(0, [(.aload_n 0, 1, []), (.getfield 24, 3, [3, 5, 1]), (.iload_n 1, 1, []), (.iconst 4, 1, []), (.imul, 1, []), (.iload_n 2, 1, []), (.iadd, 1, []), (.iaload, 1, []), (.ireturn, 1, [])])]
abbrev M_X3_pinCell : Md := (36, 3, 3, (some .int), P_X3_pinCell)
theorem ok_X3_pinCell : k_okM M_X3_pinCell := by unfold k_okM; decide +kernel
