/-! code as data (written by wip/whole/gencode.py) -/
def P_X0_shiftVias : CB := [(0, [(.aload_n 0, 1, []), (.iconst 0, 1, []), (.putfield 47, 3, [0, 3, 0]), (.aload_n 0, 1, []), (.iconst 0, 1, []), (.putfield 50, 3, [0, 4, 0]), (.iconst 0, 1, []), (.istore_n 3, 1, []), (.nop, 0, [1])]),
  (12, [(.iload_n 3, 1, []), (.aload_n 0, 1, []), (.getfield 15, 3, [0, 1, 1]), (.getfield 53, 3, [3, 14, 0]), (.if_icmp .ge 97, 3, [5]), (.iconst 0, 1, []), (.istore 4, 2, []), (.nop, 0, [2])]),
  (26, [(.iload 4, 2, []), (.aload_n 0, 1, []), (.getfield 9, 3, [0, 0, 1]), (.getfield 35, 3, [2, 4, 0]), (.if_icmp .ge 76, 3, [4]), (.aload_n 0, 1, []), (.getfield 15, 3, [0, 1, 1]), (.iload_n 3, 1, []), (.iload 4, 2, []), (.invokevirtual 58, 3, [53, 3, 3]), (.iconst 4, 1, []), (.ishr, 1, []), (.iconst 1, 1, []), (.iand, 1, []), (.ifCond .eq 53, 3, [3]), (.aload_n 0, 1, []), (.getfield 9, 3, [0, 0, 1]), (.aload_n 0, 1, []), (.getfield 9, 3, [0, 0, 1]), (.getfield 62, 3, [2, 6, 1]), (.iload 4, 2, []), (.iaload, 1, []), (.iload_n 1, 1, []), (.iadd, 1, []), (.aload_n 0, 1, []), (.getfield 9, 3, [0, 0, 1]), (.getfield 65, 3, [2, 7, 1]), (.iload 4, 2, []), (.iaload, 1, []), (.iload_n 2, 1, []), (.iadd, 1, []), (.aload_n 0, 1, []), (.getfield 9, 3, [0, 0, 1]), (.getfield 68, 3, [2, 8, 1]), (.iload 4, 2, []), (.iaload, 1, []), (.invokevirtual 71, 3, [29, 4, 2]), (.istore 5, 2, []), (.aload_n 0, 1, []), (.iload_n 3, 1, []), (.iload 5, 2, []), (.invokevirtual 75, 3, [2, 3, 0]), (.nop, 0, [3])]),
  (105, [(.iinc 4 1, 3, []), (.goto (-82), 3, [2])]),
  (111, [(.iinc 3 1, 3, []), (.goto (-102), 3, [1])]),
  (117, [(.return_, 1, [])])]
abbrev M_X0_shiftVias : Md := (1, 0, 6, none, P_X0_shiftVias)
theorem ok_X0_shiftVias : k_okM M_X0_shiftVias := by unfold k_okM; decide +kernel
def P_X0_judgeVia : CB := [(0, [(.iload_n 2, 1, []), (.iconst (-1), 1, []), (.if_icmp .ne 7, 3, [1]), (.iconst (-1), 1, []), (.goto 17, 3, [2])]),
  (9, [(.aload_n 0, 1, []), (.getfield 9, 3, [0, 0, 1]), (.getfield 79, 3, [2, 5, 1]), (.iload_n 2, 1, []), (.bipush 6, 2, []), (.imul, 1, []), (.iconst 4, 1, []), (.iadd, 1, []), (.iaload, 1, []), (.nop, 0, [2])]),
  (23, [(.istore_n 3, 1, []), (.iload_n 2, 1, []), (.iconst (-1), 1, []), (.if_icmp .eq 8, 3, [3]), (.iload_n 3, 1, []), (.iconst (-1), 1, []), (.if_icmp .ne 14, 3, [4]), (.nop, 0, [3])]),
  (34, [(.aload_n 0, 1, []), (.dup, 1, []), (.getfield 50, 3, [0, 4, 0]), (.iconst 1, 1, []), (.iadd, 1, []), (.putfield 50, 3, [0, 4, 0]), (.return_, 1, [])]),
  (45, [(.aload_n 0, 1, []), (.getfield 15, 3, [0, 1, 1]), (.iload_n 2, 1, []), (.invokevirtual 82, 3, [52, 2, 3]), (.istore 4, 2, []), (.aload_n 0, 1, []), (.getfield 15, 3, [0, 1, 1]), (.iload_n 3, 1, []), (.invokevirtual 82, 3, [52, 2, 3]), (.istore 5, 2, []), (.iload 4, 2, []), (.iload 5, 2, []), (.ior, 1, []), (.iconst 1, 1, []), (.iload_n 1, 1, []), (.ishl, 1, []), (.iconst (-1), 1, []), (.ixor, 1, []), (.iand, 1, []), (.ifCond .eq 13, 3, [5]), (.aload_n 0, 1, []), (.dup, 1, []), (.getfield 47, 3, [0, 3, 0]), (.iconst 1, 1, []), (.iadd, 1, []), (.putfield 47, 3, [0, 3, 0]), (.nop, 0, [5])]),
  (89, [(.iload 4, 2, []), (.iload 5, 2, []), (.iand, 1, []), (.iconst 1, 1, []), (.iload_n 1, 1, []), (.ishl, 1, []), (.iand, 1, []), (.ifCond .ne 13, 3, [6]), (.aload_n 0, 1, []), (.dup, 1, []), (.getfield 50, 3, [0, 4, 0]), (.iconst 1, 1, []), (.iadd, 1, []), (.putfield 50, 3, [0, 4, 0]), (.nop, 0, [6])]),
  (111, [(.return_, 1, [])])]
abbrev M_X0_judgeVia : Md := (2, 0, 6, none, P_X0_judgeVia)
theorem ok_X0_judgeVia : k_okM M_X0_judgeVia := by unfold k_okM; decide +kernel
def P_X0_worstShift : CB := [(0, [(.iconst 0, 1, []), (.istore_n 3, 1, []), (.iconst 0, 1, []), (.istore 4, 2, []), (.iconst (-1), 1, []), (.istore 5, 2, []), (.iload_n 1, 1, []), (.ineg, 1, []), (.istore 6, 2, []), (.nop, 0, [1])]),
  (12, [(.iload 6, 2, []), (.iload_n 1, 1, []), (.if_icmp .gt 65, 3, [5]), (.iload_n 1, 1, []), (.ineg, 1, []), (.istore 7, 2, []), (.nop, 0, [2])]),
  (22, [(.iload 7, 2, []), (.iload_n 1, 1, []), (.if_icmp .gt 49, 3, [4]), (.aload_n 0, 1, []), (.iload 6, 2, []), (.iload 7, 2, []), (.invokevirtual 86, 3, [1, 3, 0]), (.aload_n 0, 1, []), (.getfield 47, 3, [0, 3, 0]), (.aload_n 0, 1, []), (.getfield 50, 3, [0, 4, 0]), (.iadd, 1, []), (.iload 5, 2, []), (.if_icmp .le 21, 3, [3]), (.aload_n 0, 1, []), (.getfield 47, 3, [0, 3, 0]), (.aload_n 0, 1, []), (.getfield 50, 3, [0, 4, 0]), (.iadd, 1, []), (.istore 5, 2, []), (.iload 6, 2, []), (.istore_n 3, 1, []), (.iload 7, 2, []), (.istore 4, 2, []), (.nop, 0, [3])]),
  (68, [(.iinc 7 1, 3, []), (.goto (-49), 3, [2])]),
  (74, [(.iinc 6 1, 3, []), (.goto (-65), 3, [1])]),
  (80, [(.iload_n 2, 1, []), (.ifCond .ne 7, 3, [6]), (.iload_n 3, 1, []), (.goto 15, 3, [8])]),
  (88, [(.iload_n 2, 1, []), (.iconst 1, 1, []), (.if_icmp .ne 8, 3, [7]), (.iload 4, 2, []), (.goto 5, 3, [8])]),
  (98, [(.iload 5, 2, []), (.nop, 0, [8])]),
  (100, [(.ireturn, 1, [])])]
abbrev M_X0_worstShift : Md := (3, 0, 8, (some .int), P_X0_worstShift)
theorem ok_X0_worstShift : k_okM M_X0_worstShift := by unfold k_okM; decide +kernel
def P_X0_joinAll : CB := [(0, [(.aload_n 0, 1, []), (.getfield 38, 3, [0, 5, 1]), (.iconst (-1), 1, []), (.invokestatic 29, 3, [322, 2]), (.aload_n 0, 1, []), (.iconst 0, 1, []), (.putfield 89, 3, [0, 8, 0]), (.iconst 0, 1, []), (.istore_n 1, 1, []), (.nop, 0, [1])]),
  (15, [(.iload_n 1, 1, []), (.aload_n 0, 1, []), (.getfield 9, 3, [0, 0, 1]), (.getfield 35, 3, [2, 4, 0]), (.if_icmp .ge 54, 3, [3]), (.aload_n 0, 1, []), (.getfield 38, 3, [0, 5, 1]), (.iload_n 1, 1, []), (.iaload, 1, []), (.iconst (-1), 1, []), (.if_icmp .ne 38, 3, [2]), (.aload_n 0, 1, []), (.getfield 15, 3, [0, 1, 1]), (.iload_n 1, 1, []), (.invokevirtual 82, 3, [52, 2, 3]), (.ifCond .eq 27, 3, [2]), (.aload_n 0, 1, []), (.getfield 44, 3, [0, 7, 1]), (.aload_n 0, 1, []), (.getfield 89, 3, [0, 8, 0]), (.aload_n 0, 1, []), (.iload_n 1, 1, []), (.invokevirtual 92, 3, [5, 2, 0]), (.iastore, 1, []), (.aload_n 0, 1, []), (.dup, 1, []), (.getfield 89, 3, [0, 8, 0]), (.iconst 1, 1, []), (.iadd, 1, []), (.putfield 89, 3, [0, 8, 0]), (.nop, 0, [2])]),
  (71, [(.iinc 1 1, 3, []), (.goto (-59), 3, [1])]),
  (77, [(.return_, 1, [])])]
abbrev M_X0_joinAll : Md := (4, 0, 2, none, P_X0_joinAll)
theorem ok_X0_joinAll : k_okM M_X0_joinAll := by unfold k_okM; decide +kernel
def P_X0_joinFrom : CB := [(0, [(.aload_n 0, 1, []), (.getfield 38, 3, [0, 5, 1]), (.iload_n 1, 1, []), (.aload_n 0, 1, []), (.getfield 89, 3, [0, 8, 0]), (.iastore, 1, []), (.aload_n 0, 1, []), (.getfield 41, 3, [0, 6, 1]), (.iconst 0, 1, []), (.iload_n 1, 1, []), (.iastore, 1, []), (.iconst 1, 1, []), (.istore_n 2, 1, []), (.iconst 0, 1, []), (.istore_n 3, 1, []), (.iconst 0, 1, []), (.istore 4, 2, []), (.nop, 0, [1])]),
  (24, [(.iload 4, 2, []), (.iload_n 2, 1, []), (.if_icmp .ge 139, 3, [5]), (.iload 4, 2, []), (.aload_n 0, 1, []), (.getfield 9, 3, [0, 0, 1]), (.getfield 35, 3, [2, 4, 0]), (.if_icmp .ge 127, 3, [5]), (.iload_n 3, 1, []), (.aload_n 0, 1, []), (.getfield 15, 3, [0, 1, 1]), (.aload_n 0, 1, []), (.getfield 41, 3, [0, 6, 1]), (.iload 4, 2, []), (.iaload, 1, []), (.invokevirtual 82, 3, [52, 2, 3]), (.ior, 1, []), (.istore_n 3, 1, []), (.aload_n 0, 1, []), (.aload_n 0, 1, []), (.getfield 41, 3, [0, 6, 1]), (.iload 4, 2, []), (.iaload, 1, []), (.invokevirtual 95, 3, [6, 2, 0]), (.istore 5, 2, []), (.iconst 0, 1, []), (.istore 6, 2, []), (.nop, 0, [2])]),
  (75, [(.iload 6, 2, []), (.bipush 6, 2, []), (.if_icmp .ge 81, 3, [4]), (.aload_n 0, 1, []), (.getfield 9, 3, [0, 0, 1]), (.getfield 79, 3, [2, 5, 1]), (.aload_n 0, 1, []), (.getfield 41, 3, [0, 6, 1]), (.iload 4, 2, []), (.iaload, 1, []), (.bipush 6, 2, []), (.imul, 1, []), (.iload 6, 2, []), (.iadd, 1, []), (.iaload, 1, []), (.istore 7, 2, []), (.iload 5, 2, []), (.iload 6, 2, []), (.ishr, 1, []), (.iconst 1, 1, []), (.iand, 1, []), (.ifCond .eq 42, 3, [3]), (.iload 7, 2, []), (.iconst (-1), 1, []), (.if_icmp .eq 36, 3, [3]), (.aload_n 0, 1, []), (.getfield 38, 3, [0, 5, 1]), (.iload 7, 2, []), (.iaload, 1, []), (.iconst (-1), 1, []), (.if_icmp .ne 25, 3, [3]), (.aload_n 0, 1, []), (.getfield 38, 3, [0, 5, 1]), (.iload 7, 2, []), (.aload_n 0, 1, []), (.getfield 89, 3, [0, 8, 0]), (.iastore, 1, []), (.aload_n 0, 1, []), (.getfield 41, 3, [0, 6, 1]), (.iload_n 2, 1, []), (.iload 7, 2, []), (.iastore, 1, []), (.iinc 2 1, 3, []), (.nop, 0, [3])]),
  (154, [(.iinc 6 1, 3, []), (.goto (-82), 3, [2])]),
  (160, [(.iinc 4 1, 3, []), (.goto (-139), 3, [1])]),
  (166, [(.iload_n 3, 1, []), (.ireturn, 1, [])])]
abbrev M_X0_joinFrom : Md := (5, 0, 8, (some .int), P_X0_joinFrom)
theorem ok_X0_joinFrom : k_okM M_X0_joinFrom := by unfold k_okM; decide +kernel
def P_X0_allMovesAt : CB := [(0, [(.iconst 0, 1, []), (.istore_n 2, 1, []), (.iconst 0, 1, []), (.istore_n 3, 1, []), (.nop, 0, [1])]),
  (4, [(.iload_n 3, 1, []), (.aload_n 0, 1, []), (.getfield 15, 3, [0, 1, 1]), (.getfield 53, 3, [3, 14, 0]), (.if_icmp .ge 21, 3, [2]), (.iload_n 2, 1, []), (.aload_n 0, 1, []), (.getfield 15, 3, [0, 1, 1]), (.iload_n 3, 1, []), (.iload_n 1, 1, []), (.invokevirtual 58, 3, [53, 3, 3]), (.ior, 1, []), (.istore_n 2, 1, []), (.iinc 3 1, 3, []), (.goto (-26), 3, [1])]),
  (33, [(.iload_n 2, 1, []), (.ireturn, 1, [])])]
abbrev M_X0_allMovesAt : Md := (6, 0, 4, (some .int), P_X0_allMovesAt)
theorem ok_X0_allMovesAt : k_okM M_X0_allMovesAt := by unfold k_okM; decide +kernel
def P_X0_joinedPairs : CB := [(0, [(.iconst 0, 1, []), (.istore_n 1, 1, []), (.iconst 0, 1, []), (.istore_n 2, 1, []), (.nop, 0, [1])]),
  (4, [(.iload_n 2, 1, []), (.aload_n 0, 1, []), (.getfield 15, 3, [0, 1, 1]), (.getfield 53, 3, [3, 14, 0]), (.if_icmp .ge 52, 3, [6]), (.iload_n 2, 1, []), (.iconst 1, 1, []), (.iadd, 1, []), (.istore_n 3, 1, []), (.nop, 0, [2])]),
  (19, [(.iload_n 3, 1, []), (.aload_n 0, 1, []), (.getfield 15, 3, [0, 1, 1]), (.getfield 53, 3, [3, 14, 0]), (.if_icmp .ge 31, 3, [5]), (.iload_n 1, 1, []), (.aload_n 0, 1, []), (.iconst 1, 1, []), (.iload_n 2, 1, []), (.ishl, 1, []), (.iconst 1, 1, []), (.iload_n 3, 1, []), (.ishl, 1, []), (.ior, 1, []), (.invokevirtual 98, 3, [8, 2, 0]), (.ifCond .eq 7, 3, [3]), (.iconst 1, 1, []), (.goto 4, 3, [4])]),
  (49, [(.iconst 0, 1, []), (.nop, 0, [4])]),
  (50, [(.iadd, 1, []), (.istore_n 1, 1, []), (.iinc 3 1, 3, []), (.goto (-36), 3, [2])]),
  (58, [(.iinc 2 1, 3, []), (.goto (-57), 3, [1])]),
  (64, [(.iload_n 1, 1, []), (.ireturn, 1, [])])]
abbrev M_X0_joinedPairs : Md := (7, 0, 4, (some .int), P_X0_joinedPairs)
theorem ok_X0_joinedPairs : k_okM M_X0_joinedPairs := by unfold k_okM; decide +kernel
def P_X0_areJoined : CB := [(0, [(.iconst 0, 1, []), (.istore_n 2, 1, []), (.nop, 0, [1])]),
  (2, [(.iload_n 2, 1, []), (.aload_n 0, 1, []), (.getfield 89, 3, [0, 8, 0]), (.if_icmp .ge 23, 3, [3]), (.aload_n 0, 1, []), (.getfield 44, 3, [0, 7, 1]), (.iload_n 2, 1, []), (.iaload, 1, []), (.iload_n 1, 1, []), (.iand, 1, []), (.iload_n 1, 1, []), (.if_icmp .ne 5, 3, [2]), (.iconst 1, 1, []), (.ireturn, 1, [])]),
  (24, [(.iinc 2 1, 3, []), (.goto (-25), 3, [1])]),
  (30, [(.iconst 0, 1, []), (.ireturn, 1, [])])]
abbrev M_X0_areJoined : Md := (8, 0, 3, (some .boolean), P_X0_areJoined)
theorem ok_X0_areJoined : k_okM M_X0_areJoined := by unfold k_okM; decide +kernel
def P_X0_openParts : CB := [(0, [(.iconst 0, 1, []), (.istore_n 1, 1, []), (.iconst 0, 1, []), (.istore_n 2, 1, []), (.nop, 0, [1])]),
  (4, [(.iload_n 2, 1, []), (.aload_n 0, 1, []), (.getfield 15, 3, [0, 1, 1]), (.getfield 53, 3, [3, 14, 0]), (.if_icmp .ge 47, 3, [6]), (.iconst 1, 1, []), (.istore_n 3, 1, []), (.nop, 0, [2])]),
  (17, [(.iload_n 3, 1, []), (.aload_n 0, 1, []), (.getfield 15, 3, [0, 1, 1]), (.getfield 102, 3, [3, 4, 1]), (.iload_n 2, 1, []), (.iaload, 1, []), (.if_icmp .ge 26, 3, [5]), (.iload_n 1, 1, []), (.aload_n 0, 1, []), (.iload_n 2, 1, []), (.iload_n 3, 1, []), (.invokevirtual 105, 3, [10, 3, 0]), (.ifCond .eq 7, 3, [3]), (.iconst 1, 1, []), (.goto 4, 3, [4])]),
  (44, [(.iconst 0, 1, []), (.nop, 0, [4])]),
  (45, [(.iadd, 1, []), (.istore_n 1, 1, []), (.iinc 3 1, 3, []), (.goto (-33), 3, [2])]),
  (53, [(.iinc 2 1, 3, []), (.goto (-52), 3, [1])]),
  (59, [(.iload_n 1, 1, []), (.ireturn, 1, [])])]
abbrev M_X0_openParts : Md := (9, 0, 4, (some .int), P_X0_openParts)
theorem ok_X0_openParts : k_okM M_X0_openParts := by unfold k_okM; decide +kernel
def P_X0_isNewPart : CB := [(0, [(.iconst 0, 1, []), (.istore_n 3, 1, []), (.nop, 0, [1])]),
  (2, [(.iload_n 3, 1, []), (.iload_n 2, 1, []), (.if_icmp .ge 42, 3, [3]), (.aload_n 0, 1, []), (.getfield 38, 3, [0, 5, 1]), (.aload_n 0, 1, []), (.getfield 15, 3, [0, 1, 1]), (.iload_n 1, 1, []), (.iload_n 3, 1, []), (.invokevirtual 109, 3, [36, 3, 3]), (.iaload, 1, []), (.aload_n 0, 1, []), (.getfield 38, 3, [0, 5, 1]), (.aload_n 0, 1, []), (.getfield 15, 3, [0, 1, 1]), (.iload_n 1, 1, []), (.iload_n 2, 1, []), (.invokevirtual 109, 3, [36, 3, 3]), (.iaload, 1, []), (.if_icmp .ne 5, 3, [2]), (.iconst 0, 1, []), (.ireturn, 1, [])]),
  (40, [(.iinc 3 1, 3, []), (.goto (-41), 3, [1])]),
  (46, [(.iconst 1, 1, []), (.ireturn, 1, [])])]
abbrev M_X0_isNewPart : Md := (10, 0, 4, (some .boolean), P_X0_isNewPart)
theorem ok_X0_isNewPart : k_okM M_X0_isNewPart := by unfold k_okM; decide +kernel
def P_X0_reachable : CB := [(0, [(.iconst 0, 1, []), (.istore_n 2, 1, []), (.iload_n 1, 1, []), (.aload_n 0, 1, []), (.getfield 9, 3, [0, 0, 1]), (.getfield 112, 3, [2, 3, 0]), (.imul, 1, []), (.istore_n 3, 1, []), (.nop, 0, [1])]),
  (12, [(.iload_n 3, 1, []), (.iload_n 1, 1, []), (.iconst 1, 1, []), (.iadd, 1, []), (.aload_n 0, 1, []), (.getfield 9, 3, [0, 0, 1]), (.getfield 112, 3, [2, 3, 0]), (.imul, 1, []), (.if_icmp .ge 58, 3, [3]), (.aload_n 0, 1, []), (.getfield 15, 3, [0, 1, 1]), (.iload_n 3, 1, []), (.invokevirtual 82, 3, [52, 2, 3]), (.istore 4, 2, []), (.iload 4, 2, []), (.invokestatic 115, 3, [316, 1]), (.iconst 1, 1, []), (.if_icmp .ne 33, 3, [2]), (.aload_n 0, 1, []), (.getfield 15, 3, [0, 1, 1]), (.getfield 120, 3, [3, 6, 1]), (.iload_n 3, 1, []), (.iaload, 1, []), (.ifCond .ne 21, 3, [2]), (.aload_n 0, 1, []), (.iload_n 3, 1, []), (.invokevirtual 123, 3, [12, 2, 0]), (.iload 4, 2, []), (.iconst (-1), 1, []), (.ixor, 1, []), (.iand, 1, []), (.ifCond .ne 8, 3, [2]), (.iload_n 2, 1, []), (.iload 4, 2, []), (.ior, 1, []), (.istore_n 2, 1, []), (.nop, 0, [2])]),
  (76, [(.iinc 3 1, 3, []), (.goto (-67), 3, [1])]),
  (82, [(.iload_n 2, 1, []), (.ireturn, 1, [])])]
abbrev M_X0_reachable : Md := (11, 0, 5, (some .int), P_X0_reachable)
theorem ok_X0_reachable : k_okM M_X0_reachable := by unfold k_okM; decide +kernel
def P_X0_copperBeside : CB := [(0, [(.iconst 0, 1, []), (.istore_n 2, 1, []), (.iconst 0, 1, []), (.istore_n 3, 1, []), (.nop, 0, [1])]),
  (4, [(.iload_n 3, 1, []), (.iconst 4, 1, []), (.if_icmp .ge 47, 3, [4]), (.aload_n 0, 1, []), (.getfield 9, 3, [0, 0, 1]), (.getfield 79, 3, [2, 5, 1]), (.iload_n 1, 1, []), (.bipush 6, 2, []), (.imul, 1, []), (.iload_n 3, 1, []), (.iadd, 1, []), (.iaload, 1, []), (.istore 4, 2, []), (.iload_n 2, 1, []), (.iload 4, 2, []), (.iconst (-1), 1, []), (.if_icmp .ne 7, 3, [2]), (.iconst 0, 1, []), (.goto 12, 3, [3])]),
  (36, [(.aload_n 0, 1, []), (.getfield 15, 3, [0, 1, 1]), (.iload 4, 2, []), (.invokevirtual 82, 3, [52, 2, 3]), (.nop, 0, [3])]),
  (45, [(.ior, 1, []), (.istore_n 2, 1, []), (.iinc 3 1, 3, []), (.goto (-46), 3, [1])]),
  (53, [(.iload_n 2, 1, []), (.ireturn, 1, [])])]
abbrev M_X0_copperBeside : Md := (12, 0, 5, (some .int), P_X0_copperBeside)
theorem ok_X0_copperBeside : k_okM M_X0_copperBeside := by unfold k_okM; decide +kernel
def P_X0_delayOf : CB := [(0, [(.iconst 0, 1, []), (.istore_n 2, 1, []), (.iconst 0, 1, []), (.istore_n 3, 1, []), (.nop, 0, [1])]),
  (4, [(.iload_n 3, 1, []), (.aload_n 0, 1, []), (.getfield 9, 3, [0, 0, 1]), (.getfield 35, 3, [2, 4, 0]), (.if_icmp .ge 64, 3, [2]), (.aload_n 0, 1, []), (.getfield 15, 3, [0, 1, 1]), (.iload_n 1, 1, []), (.iload_n 3, 1, []), (.invokevirtual 58, 3, [53, 3, 3]), (.istore 4, 2, []), (.iload_n 2, 1, []), (.iload 4, 2, []), (.bipush 6, 2, []), (.iand, 1, []), (.invokestatic 115, 3, [316, 1]), (.aload_n 0, 1, []), (.getfield 25, 3, [0, 2, 1]), (.aload_n 0, 1, []), (.getfield 9, 3, [0, 0, 1]), (.getfield 68, 3, [2, 8, 1]), (.iload_n 3, 1, []), (.iaload, 1, []), (.iconst 1, 1, []), (.iadd, 1, []), (.iaload, 1, []), (.imul, 1, []), (.iadd, 1, []), (.istore_n 2, 1, []), (.iload_n 2, 1, []), (.iload 4, 2, []), (.iconst 4, 1, []), (.ishr, 1, []), (.iconst 1, 1, []), (.iand, 1, []), (.aload_n 0, 1, []), (.getfield 25, 3, [0, 2, 1]), (.iconst 0, 1, []), (.iaload, 1, []), (.imul, 1, []), (.iadd, 1, []), (.istore_n 2, 1, []), (.iinc 3 1, 3, []), (.goto (-69), 3, [1])]),
  (76, [(.iload_n 2, 1, []), (.ireturn, 1, [])])]
abbrev M_X0_delayOf : Md := (13, 0, 5, (some .int), P_X0_delayOf)
theorem ok_X0_delayOf : k_okM M_X0_delayOf := by unfold k_okM; decide +kernel
def P_X0_isBeside : CB := [(0, [(.aload_n 0, 1, []), (.getfield 15, 3, [0, 1, 1]), (.iload_n 3, 1, []), (.invokevirtual 82, 3, [52, 2, 3]), (.iload_n 1, 1, []), (.ishr, 1, []), (.iconst 1, 1, []), (.iand, 1, []), (.ifCond .eq 19, 3, [1]), (.aload_n 0, 1, []), (.iload_n 3, 1, []), (.invokevirtual 123, 3, [12, 2, 0]), (.iload_n 2, 1, []), (.ishr, 1, []), (.iconst 1, 1, []), (.iand, 1, []), (.ifCond .eq 7, 3, [1]), (.iconst 1, 1, []), (.goto 4, 3, [2])]),
  (31, [(.iconst 0, 1, []), (.nop, 0, [2])]),
  (32, [(.ireturn, 1, [])])]
abbrev M_X0_isBeside : Md := (14, 0, 4, (some .boolean), P_X0_isBeside)
theorem ok_X0_isBeside : k_okM M_X0_isBeside := by unfold k_okM; decide +kernel
def P_X0_cellsBeside : CB := [(0, [(.iconst 0, 1, []), (.istore_n 3, 1, []), (.iconst 0, 1, []), (.istore 4, 2, []), (.nop, 0, [1])]),
  (5, [(.iload 4, 2, []), (.aload_n 0, 1, []), (.getfield 9, 3, [0, 0, 1]), (.getfield 35, 3, [2, 4, 0]), (.if_icmp .ge 28, 3, [4]), (.iload_n 3, 1, []), (.aload_n 0, 1, []), (.iload_n 1, 1, []), (.iload_n 2, 1, []), (.iload 4, 2, []), (.invokevirtual 126, 3, [14, 4, 0]), (.ifCond .eq 7, 3, [2]), (.iconst 1, 1, []), (.goto 4, 3, [3])]),
  (33, [(.iconst 0, 1, []), (.nop, 0, [3])]),
  (34, [(.iadd, 1, []), (.istore_n 3, 1, []), (.iinc 4 1, 3, []), (.goto (-34), 3, [1])]),
  (42, [(.iload_n 3, 1, []), (.ireturn, 1, [])])]
abbrev M_X0_cellsBeside : Md := (15, 0, 5, (some .int), P_X0_cellsBeside)
theorem ok_X0_cellsBeside : k_okM M_X0_cellsBeside := by unfold k_okM; decide +kernel
