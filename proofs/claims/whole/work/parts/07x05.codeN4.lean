/-! code as data (written by wip/whole/gencode.py) -/
def P_X6_partOthers : CB := [(0, [(.aload_n 0, 1, []), (.getfield 9, 3, [6, 8, 1]), (.iconst 0, 1, []), (.invokestatic 50, 3, [322, 2]), (.aload_n 0, 1, []), (.getfield 19, 3, [6, 1, 1]), (.iload_n 1, 1, []), (.iconst 3, 1, []), (.invokevirtual 76, 3, [34, 3, 3]), (.istore_n 2, 1, []), (.iconst 0, 1, []), (.istore_n 3, 1, []), (.nop, 0, [1])]),
  (20, [(.iload_n 3, 1, []), (.aload_n 0, 1, []), (.getfield 19, 3, [6, 1, 1]), (.getfield 80, 3, [3, 14, 0]), (.if_icmp .ge 38, 3, [3]), (.iload_n 3, 1, []), (.iload_n 1, 1, []), (.if_icmp .eq 27, 3, [2]), (.aload_n 0, 1, []), (.getfield 9, 3, [6, 8, 1]), (.iload_n 2, 1, []), (.aload_n 0, 1, []), (.getfield 19, 3, [6, 1, 1]), (.iload_n 3, 1, []), (.iconst 3, 1, []), (.invokevirtual 76, 3, [34, 3, 3]), (.invokestatic 83, 3, [0]), (.dup2, 1, []), (.iaload, 1, []), (.iconst 1, 1, []), (.iload_n 3, 1, []), (.ishl, 1, []), (.ior, 1, []), (.iastore, 1, []), (.nop, 0, [2])]),
  (60, [(.iinc 3 1, 3, []), (.goto (-43), 3, [1])]),
  (66, [(.return_, 1, [])])]
abbrev M_X6_partOthers : Md := (78, 6, 4, none, P_X6_partOthers)
theorem ok_X6_partOthers : k_okM M_X6_partOthers := by unfold k_okM; decide +kernel
def P_X6_spreadAll : CB := [(0, [(.iconst 0, 1, []), (.istore 4, 2, []), (.nop, 0, [1])]),
  (3, [(.iload 4, 2, []), (.aload_n 0, 1, []), (.getfield 9, 3, [6, 8, 1]), (.arraylength, 1, []), (.if_icmp .ge 48, 3, [3]), (.iload_n 2, 1, []), (.iload_n 3, 1, []), (.ior, 1, []), (.aload_n 0, 1, []), (.getfield 9, 3, [6, 8, 1]), (.iload 4, 2, []), (.iaload, 1, []), (.iand, 1, []), (.ifCond .eq 28, 3, [2]), (.aload_n 0, 1, []), (.iload_n 1, 1, []), (.iload 4, 2, []), (.iload_n 2, 1, []), (.aload_n 0, 1, []), (.getfield 9, 3, [6, 8, 1]), (.iload 4, 2, []), (.iaload, 1, []), (.iand, 1, []), (.iload_n 3, 1, []), (.aload_n 0, 1, []), (.getfield 9, 3, [6, 8, 1]), (.iload 4, 2, []), (.iaload, 1, []), (.iand, 1, []), (.invokevirtual 88, 3, [80, 5, 6]), (.nop, 0, [2])]),
  (52, [(.iinc 4 1, 3, []), (.goto (-52), 3, [1])]),
  (58, [(.return_, 1, [])])]
abbrev M_X6_spreadAll : Md := (79, 6, 5, none, P_X6_spreadAll)
theorem ok_X6_spreadAll : k_okM M_X6_spreadAll := by unfold k_okM; decide +kernel
def P_X6_spread : CB := [(0, [(.iconst 0, 1, []), (.aload_n 0, 1, []), (.getfield 15, 3, [6, 0, 1]), (.getfield 92, 3, [2, 6, 1]), (.iload_n 1, 1, []), (.iaload, 1, []), (.iload_n 2, 1, []), (.isub, 1, []), (.invokestatic 83, 3, [0]), (.istore 5, 2, []), (.aload_n 0, 1, []), (.getfield 15, 3, [6, 0, 1]), (.getfield 95, 3, [2, 0, 0]), (.iconst 1, 1, []), (.isub, 1, []), (.aload_n 0, 1, []), (.getfield 15, 3, [6, 0, 1]), (.getfield 92, 3, [2, 6, 1]), (.iload_n 1, 1, []), (.iaload, 1, []), (.iload_n 2, 1, []), (.iadd, 1, []), (.invokestatic 98, 3, [1]), (.istore 6, 2, []), (.aload_n 0, 1, []), (.getfield 15, 3, [6, 0, 1]), (.getfield 101, 3, [2, 1, 0]), (.iconst 1, 1, []), (.isub, 1, []), (.aload_n 0, 1, []), (.getfield 15, 3, [6, 0, 1]), (.getfield 104, 3, [2, 7, 1]), (.iload_n 1, 1, []), (.iaload, 1, []), (.iload_n 2, 1, []), (.iadd, 1, []), (.invokestatic 98, 3, [1]), (.istore 7, 2, []), (.iconst 0, 1, []), (.aload_n 0, 1, []), (.getfield 15, 3, [6, 0, 1]), (.getfield 104, 3, [2, 7, 1]), (.iload_n 1, 1, []), (.iaload, 1, []), (.iload_n 2, 1, []), (.isub, 1, []), (.invokestatic 83, 3, [0]), (.istore 8, 2, []), (.nop, 0, [1])]),
  (84, [(.iload 8, 2, []), (.iload 7, 2, []), (.if_icmp .gt 85, 3, [4]), (.aload_n 0, 1, []), (.getfield 15, 3, [6, 0, 1]), (.getfield 107, 3, [2, 8, 1]), (.iload_n 1, 1, []), (.iaload, 1, []), (.aload_n 0, 1, []), (.getfield 15, 3, [6, 0, 1]), (.getfield 110, 3, [2, 3, 0]), (.imul, 1, []), (.iload 8, 2, []), (.aload_n 0, 1, []), (.getfield 15, 3, [6, 0, 1]), (.getfield 95, 3, [2, 0, 0]), (.imul, 1, []), (.iadd, 1, []), (.istore 9, 2, []), (.iload 5, 2, []), (.istore 10, 2, []), (.nop, 0, [2])]),
  (125, [(.iload 10, 2, []), (.iload 6, 2, []), (.if_icmp .gt 38, 3, [3]), (.aload_n 0, 1, []), (.getfield 29, 3, [6, 2, 1]), (.iload 9, 2, []), (.iload 10, 2, []), (.iadd, 1, []), (.dup2, 1, []), (.iaload, 1, []), (.iload_n 3, 1, []), (.ior, 1, []), (.iastore, 1, []), (.aload_n 0, 1, []), (.getfield 32, 3, [6, 3, 1]), (.iload 9, 2, []), (.iload 10, 2, []), (.iadd, 1, []), (.dup2, 1, []), (.iaload, 1, []), (.iload 4, 2, []), (.ior, 1, []), (.iastore, 1, []), (.iinc 10 1, 3, []), (.goto (-39), 3, [2])]),
  (167, [(.iinc 8 1, 3, []), (.goto (-86), 3, [1])]),
  (173, [(.return_, 1, [])])]
abbrev M_X6_spread : Md := (80, 6, 11, none, P_X6_spread)
theorem ok_X6_spread : k_okM M_X6_spread := by unfold k_okM; decide +kernel
def P_X6_mark : CB := [(0, [(.aload_n 0, 1, []), (.getfield 19, 3, [6, 1, 1]), (.aload_n 0, 1, []), (.getfield 47, 3, [6, 9, 0]), (.iconst 4, 1, []), (.invokevirtual 76, 3, [34, 3, 3]), (.istore_n 2, 1, []), (.iconst 0, 1, []), (.istore_n 3, 1, []), (.nop, 0, [1])]),
  (15, [(.iload_n 3, 1, []), (.aload_n 0, 1, []), (.getfield 15, 3, [6, 0, 1]), (.getfield 23, 3, [2, 4, 0]), (.if_icmp .ge 66, 3, [7]), (.iload_n 2, 1, []), (.aload_n 0, 1, []), (.getfield 15, 3, [6, 0, 1]), (.getfield 107, 3, [2, 8, 1]), (.iload_n 3, 1, []), (.iaload, 1, []), (.ishr, 1, []), (.iconst 1, 1, []), (.iand, 1, []), (.ifCond .eq 16, 3, [2]), (.aload_n 0, 1, []), (.iload_n 3, 1, []), (.iload_n 1, 1, []), (.invokevirtual 113, 3, [83, 3, 6]), (.ifCond .eq 7, 3, [2]), (.iconst 1, 1, []), (.goto 4, 3, [3])]),
  (55, [(.iconst 0, 1, []), (.nop, 0, [3])]),
  (56, [(.istore 4, 2, []), (.aload_n 0, 1, []), (.getfield 38, 3, [6, 5, 1]), (.iload_n 3, 1, []), (.aload_n 0, 1, []), (.getfield 35, 3, [6, 4, 1]), (.iload_n 3, 1, []), (.iaload, 1, []), (.ifCond .ne 8, 3, [4]), (.iload 4, 2, []), (.ifCond .eq 7, 3, [5]), (.nop, 0, [4])]),
  (77, [(.iconst 1, 1, []), (.goto 4, 3, [6])]),
  (81, [(.iconst 0, 1, []), (.nop, 0, [6])]),
  (82, [(.iastore, 1, []), (.iinc 3 1, 3, []), (.goto (-71), 3, [1])]),
  (89, [(.return_, 1, [])])]
abbrev M_X6_mark : Md := (81, 6, 5, none, P_X6_mark)
theorem ok_X6_mark : k_okM M_X6_mark := by unfold k_okM; decide +kernel
def P_X6_markPlane : CB := [(0, [(.iconst 0, 1, []), (.istore_n 2, 1, []), (.nop, 0, [1])]),
  (2, [(.iload_n 2, 1, []), (.aload_n 0, 1, []), (.getfield 15, 3, [6, 0, 1]), (.getfield 23, 3, [2, 4, 0]), (.if_icmp .ge 61, 3, [7]), (.aload_n 0, 1, []), (.getfield 35, 3, [6, 4, 1]), (.iload_n 2, 1, []), (.iaload, 1, []), (.ifCond .ne 12, 3, [2]), (.aload_n 0, 1, []), (.iload_n 2, 1, []), (.iconst 0, 1, []), (.invokevirtual 113, 3, [83, 3, 6]), (.ifCond .eq 7, 3, [3]), (.nop, 0, [2])]),
  (31, [(.iconst 1, 1, []), (.goto 4, 3, [4])]),
  (35, [(.iconst 0, 1, []), (.nop, 0, [4])]),
  (36, [(.istore_n 3, 1, []), (.aload_n 0, 1, []), (.getfield 38, 3, [6, 5, 1]), (.iload_n 2, 1, []), (.iload_n 3, 1, []), (.ifCond .eq 20, 3, [5]), (.aload_n 0, 1, []), (.getfield 15, 3, [6, 0, 1]), (.getfield 107, 3, [2, 8, 1]), (.iload_n 2, 1, []), (.iaload, 1, []), (.iload_n 1, 1, []), (.if_icmp .ne 7, 3, [5]), (.iconst 1, 1, []), (.goto 4, 3, [6])]),
  (63, [(.iconst 0, 1, []), (.nop, 0, [6])]),
  (64, [(.iastore, 1, []), (.iinc 2 1, 3, []), (.goto (-66), 3, [1])]),
  (71, [(.return_, 1, [])])]
abbrev M_X6_markPlane : Md := (82, 6, 4, none, P_X6_markPlane)
theorem ok_X6_markPlane : k_okM M_X6_markPlane := by unfold k_okM; decide +kernel
def P_X6_isClear : CB := [(0, [(.aload_n 0, 1, []), (.getfield 19, 3, [6, 1, 1]), (.getfield 117, 3, [3, 6, 1]), (.iload_n 1, 1, []), (.iaload, 1, []), (.ifCond .ne 29, 3, [1]), (.aload_n 0, 1, []), (.getfield 29, 3, [6, 2, 1]), (.iload_n 1, 1, []), (.iaload, 1, []), (.ifCond .ne 20, 3, [1]), (.aload_n 0, 1, []), (.getfield 32, 3, [6, 3, 1]), (.iload_n 1, 1, []), (.iaload, 1, []), (.iload_n 2, 1, []), (.iconst (-1), 1, []), (.ixor, 1, []), (.iand, 1, []), (.ifCond .ne 7, 3, [1]), (.iconst 1, 1, []), (.goto 4, 3, [2])]),
  (38, [(.iconst 0, 1, []), (.nop, 0, [2])]),
  (39, [(.ireturn, 1, [])])]
abbrev M_X6_isClear : Md := (83, 6, 3, (some .boolean), P_X6_isClear)
theorem ok_X6_isClear : k_okM M_X6_isClear := by unfold k_okM; decide +kernel
def P_X6_flood : CB := [(0, [(.aload_n 0, 1, []), (.getfield 41, 3, [6, 6, 1]), (.iconst 0, 1, []), (.invokestatic 50, 3, [322, 2]), (.aload_n 0, 1, []), (.iload_n 1, 1, []), (.iload_n 2, 1, []), (.invokevirtual 120, 3, [85, 3, 6]), (.ireturn, 1, [])])]
abbrev M_X6_flood : Md := (84, 6, 3, (some .int), P_X6_flood)
theorem ok_X6_flood : k_okM M_X6_flood := by unfold k_okM; decide +kernel
def P_X6_floodMore : CB := [(0, [(.aload_n 0, 1, []), (.getfield 41, 3, [6, 6, 1]), (.iload_n 1, 1, []), (.iconst 1, 1, []), (.iastore, 1, []), (.aload_n 0, 1, []), (.getfield 44, 3, [6, 7, 1]), (.iconst 0, 1, []), (.iload_n 1, 1, []), (.iastore, 1, []), (.iconst 1, 1, []), (.istore_n 3, 1, []), (.iconst 0, 1, []), (.istore 4, 2, []), (.nop, 0, [1])]),
  (19, [(.iload 4, 2, []), (.iload_n 3, 1, []), (.if_icmp .ge 104, 3, [5]), (.iload 4, 2, []), (.aload_n 0, 1, []), (.getfield 15, 3, [6, 0, 1]), (.getfield 23, 3, [2, 4, 0]), (.if_icmp .ge 92, 3, [5]), (.iconst 0, 1, []), (.istore 5, 2, []), (.nop, 0, [2])]),
  (40, [(.iload 5, 2, []), (.iload_n 2, 1, []), (.if_icmp .ge 77, 3, [4]), (.aload_n 0, 1, []), (.getfield 15, 3, [6, 0, 1]), (.getfield 123, 3, [2, 5, 1]), (.aload_n 0, 1, []), (.getfield 44, 3, [6, 7, 1]), (.iload 4, 2, []), (.iaload, 1, []), (.bipush 6, 2, []), (.imul, 1, []), (.iload 5, 2, []), (.iadd, 1, []), (.iaload, 1, []), (.istore 6, 2, []), (.iload 6, 2, []), (.iconst (-1), 1, []), (.if_icmp .eq 42, 3, [3]), (.aload_n 0, 1, []), (.getfield 38, 3, [6, 5, 1]), (.iload 6, 2, []), (.iaload, 1, []), (.ifCond .eq 32, 3, [3]), (.aload_n 0, 1, []), (.getfield 41, 3, [6, 6, 1]), (.iload 6, 2, []), (.iaload, 1, []), (.ifCond .ne 22, 3, [3]), (.aload_n 0, 1, []), (.getfield 41, 3, [6, 6, 1]), (.iload 6, 2, []), (.iconst 1, 1, []), (.iastore, 1, []), (.aload_n 0, 1, []), (.getfield 44, 3, [6, 7, 1]), (.iload_n 3, 1, []), (.iload 6, 2, []), (.iastore, 1, []), (.iinc 3 1, 3, []), (.nop, 0, [3])]),
  (114, [(.iinc 5 1, 3, []), (.goto (-77), 3, [2])]),
  (120, [(.iinc 4 1, 3, []), (.goto (-104), 3, [1])]),
  (126, [(.iload_n 3, 1, []), (.ireturn, 1, [])])]
abbrev M_X6_floodMore : Md := (85, 6, 7, (some .int), P_X6_floodMore)
theorem ok_X6_floodMore : k_okM M_X6_floodMore := by unfold k_okM; decide +kernel
def P_X6_lowestUnreachedPin : CB := [(0, [(.iconst 0, 1, []), (.istore_n 2, 1, []), (.nop, 0, [1])]),
  (2, [(.iload_n 2, 1, []), (.aload_n 0, 1, []), (.getfield 19, 3, [6, 1, 1]), (.getfield 126, 3, [3, 4, 1]), (.iload_n 1, 1, []), (.iaload, 1, []), (.if_icmp .ge 28, 3, [3]), (.aload_n 0, 1, []), (.getfield 41, 3, [6, 6, 1]), (.aload_n 0, 1, []), (.getfield 19, 3, [6, 1, 1]), (.iload_n 1, 1, []), (.iload_n 2, 1, []), (.invokevirtual 129, 3, [36, 3, 3]), (.iaload, 1, []), (.ifCond .ne 5, 3, [2]), (.iload_n 2, 1, []), (.ireturn, 1, [])]),
  (34, [(.iinc 2 1, 3, []), (.goto (-35), 3, [1])]),
  (40, [(.iconst (-1), 1, []), (.ireturn, 1, [])])]
abbrev M_X6_lowestUnreachedPin : Md := (86, 6, 3, (some .int), P_X6_lowestUnreachedPin)
theorem ok_X6_lowestUnreachedPin : k_okM M_X6_lowestUnreachedPin := by unfold k_okM; decide +kernel
def P_X6_joinsAllPins : CB := [(0, [(.aload_n 0, 1, []), (.aload_n 0, 1, []), (.getfield 19, 3, [6, 1, 1]), (.iload_n 1, 1, []), (.iconst 0, 1, []), (.invokevirtual 129, 3, [36, 3, 3]), (.iload_n 2, 1, []), (.invokevirtual 132, 3, [84, 3, 6]), (.pop, 1, []), (.aload_n 0, 1, []), (.iload_n 1, 1, []), (.invokevirtual 135, 3, [86, 2, 6]), (.iconst (-1), 1, []), (.if_icmp .ne 7, 3, [1]), (.iconst 1, 1, []), (.goto 4, 3, [2])]),
  (28, [(.iconst 0, 1, []), (.nop, 0, [2])]),
  (29, [(.ireturn, 1, [])])]
abbrev M_X6_joinsAllPins : Md := (87, 6, 3, (some .boolean), P_X6_joinsAllPins)
theorem ok_X6_joinsAllPins : k_okM M_X6_joinsAllPins := by unfold k_okM; decide +kernel
def P_X7_layNet : CB := [(0, [(.aload_n 0, 1, []), (.getfield 15, 3, [7, 1, 1]), (.getfield 48, 3, [3, 4, 1]), (.iload_n 1, 1, []), (.iaload, 1, []), (.ifCond .ne 5, 3, [1]), (.iconst (-1), 1, []), (.ireturn, 1, [])]),
  (14, [(.aload_n 0, 1, []), (.getfield 19, 3, [7, 2, 1]), (.iload_n 1, 1, []), (.iconst 0, 1, []), (.invokevirtual 53, 3, [77, 3, 6]), (.aload_n 0, 1, []), (.getfield 19, 3, [7, 2, 1]), (.iconst 0, 1, []), (.invokevirtual 59, 3, [81, 2, 6]), (.aload_n 0, 1, []), (.getfield 19, 3, [7, 2, 1]), (.iload_n 1, 1, []), (.bipush 6, 2, []), (.invokevirtual 63, 3, [87, 3, 6]), (.ifCond .ne 5, 3, [2]), (.iconst (-1), 1, []), (.ireturn, 1, [])]),
  (46, [(.aload_n 0, 1, []), (.getfield 15, 3, [7, 1, 1]), (.iload_n 1, 1, []), (.invokevirtual 67, 3, [44, 2, 3]), (.aload_n 0, 1, []), (.iload_n 1, 1, []), (.iconst 1, 1, []), (.invokevirtual 70, 3, [91, 3, 7]), (.ireturn, 1, [])])]
abbrev M_X7_layNet : Md := (89, 7, 2, (some .int), P_X7_layNet)
theorem ok_X7_layNet : k_okM M_X7_layNet := by unfold k_okM; decide +kernel
def P_X7_tryCost : CB := [(0, [(.aload_n 0, 1, []), (.getfield 15, 3, [7, 1, 1]), (.getfield 48, 3, [3, 4, 1]), (.iload_n 1, 1, []), (.iaload, 1, []), (.ifCond .ne 5, 3, [1]), (.iconst (-1), 1, []), (.ireturn, 1, [])]),
  (14, [(.aload_n 0, 1, []), (.getfield 19, 3, [7, 2, 1]), (.iload_n 1, 1, []), (.iconst 0, 1, []), (.invokevirtual 53, 3, [77, 3, 6]), (.aload_n 0, 1, []), (.getfield 19, 3, [7, 2, 1]), (.iconst 0, 1, []), (.invokevirtual 59, 3, [81, 2, 6]), (.aload_n 0, 1, []), (.getfield 15, 3, [7, 1, 1]), (.invokevirtual 74, 3, [57, 1, 3]), (.aload_n 0, 1, []), (.getfield 15, 3, [7, 1, 1]), (.iload_n 1, 1, []), (.invokevirtual 67, 3, [44, 2, 3]), (.aload_n 0, 1, []), (.iload_n 1, 1, []), (.iload_n 2, 1, []), (.invokevirtual 70, 3, [91, 3, 7]), (.istore_n 3, 1, []), (.aload_n 0, 1, []), (.getfield 15, 3, [7, 1, 1]), (.invokevirtual 77, 3, [58, 1, 3]), (.iload_n 3, 1, []), (.ireturn, 1, [])])]
abbrev M_X7_tryCost : Md := (90, 7, 4, (some .int), P_X7_tryCost)
theorem ok_X7_tryCost : k_okM M_X7_tryCost := by unfold k_okM; decide +kernel
def P_X7_layRows : CB := [(0, [(.aload_n 0, 1, []), (.getfield 15, 3, [7, 1, 1]), (.iload_n 1, 1, []), (.iconst 2, 1, []), (.invokevirtual 80, 3, [34, 3, 3]), (.istore_n 3, 1, []), (.aload_n 0, 1, []), (.iload_n 3, 1, []), (.ifCond .ne 7, 3, [1]), (.iconst 1, 1, []), (.goto 4, 3, [2])]),
  (19, [(.iconst 5, 1, []), (.nop, 0, [2])]),
  (20, [(.putfield 84, 3, [7, 10, 0]), (.aload_n 0, 1, []), (.iload_n 2, 1, []), (.ifCond .eq 8, 3, [3]), (.bipush 6, 2, []), (.goto 4, 3, [4])]),
  (33, [(.iconst 4, 1, []), (.nop, 0, [4])]),
  (34, [(.putfield 87, 3, [7, 11, 0]), (.aload_n 0, 1, []), (.aload_n 0, 1, []), (.getfield 15, 3, [7, 1, 1]), (.iload_n 1, 1, []), (.iconst 0, 1, []), (.invokevirtual 80, 3, [34, 3, 3]), (.bipush 11, 2, []), (.ishl, 1, []), (.iconst 1, 1, []), (.iadd, 1, []), (.putfield 90, 3, [7, 12, 0]), (.aload_n 0, 1, []), (.aload_n 0, 1, []), (.getfield 15, 3, [7, 1, 1]), (.iload_n 1, 1, []), (.iconst 1, 1, []), (.invokevirtual 80, 3, [34, 3, 3]), (.bipush 11, 2, []), (.ishl, 1, []), (.iconst 1, 1, []), (.iadd, 1, []), (.putfield 93, 3, [7, 13, 0]), (.aload_n 0, 1, []), (.iload_n 3, 1, []), (.bipush 11, 2, []), (.ishl, 1, []), (.putfield 96, 3, [7, 14, 0]), (.iconst 0, 1, []), (.istore 4, 2, []), (.aload_n 0, 1, []), (.iload_n 1, 1, []), (.invokevirtual 99, 3, [92, 2, 7]), (.iconst 1, 1, []), (.istore 5, 2, []), (.nop, 0, [5])]),
  (92, [(.iload 5, 2, []), (.aload_n 0, 1, []), (.getfield 15, 3, [7, 1, 1]), (.getfield 48, 3, [3, 4, 1]), (.iload_n 1, 1, []), (.iaload, 1, []), (.if_icmp .ge 81, 3, [8]), (.aload_n 0, 1, []), (.getfield 15, 3, [7, 1, 1]), (.iload_n 1, 1, []), (.iload 5, 2, []), (.invokevirtual 102, 3, [36, 3, 3]), (.istore 6, 2, []), (.aload_n 0, 1, []), (.getfield 33, 3, [7, 4, 1]), (.iload 6, 2, []), (.iaload, 1, []), (.ifCond .ne 53, 3, [7]), (.aload_n 0, 1, []), (.iload 6, 2, []), (.invokevirtual 105, 3, [93, 2, 7]), (.ifCond .ne 5, 3, [6]), (.iconst (-1), 1, []), (.ireturn, 1, [])]),
  (139, [(.iload 4, 2, []), (.aload_n 0, 1, []), (.getfield 39, 3, [7, 6, 1]), (.iload 6, 2, []), (.aload_n 0, 1, []), (.getfield 84, 3, [7, 10, 0]), (.imul, 1, []), (.aload_n 0, 1, []), (.getfield 84, 3, [7, 10, 0]), (.iadd, 1, []), (.iconst 1, 1, []), (.isub, 1, []), (.iaload, 1, []), (.bipush 11, 2, []), (.ishr, 1, []), (.iadd, 1, []), (.istore 4, 2, []), (.aload_n 0, 1, []), (.iload_n 1, 1, []), (.iload 6, 2, []), (.invokevirtual 109, 3, [98, 3, 7]), (.aload_n 0, 1, []), (.iload_n 1, 1, []), (.invokevirtual 99, 3, [92, 2, 7]), (.nop, 0, [7])]),
  (178, [(.iinc 5 1, 3, []), (.goto (-89), 3, [5])]),
  (184, [(.iload 4, 2, []), (.ireturn, 1, [])])]
abbrev M_X7_layRows : Md := (91, 7, 7, (some .int), P_X7_layRows)
theorem ok_X7_layRows : k_okM M_X7_layRows := by unfold k_okM; decide +kernel
def P_X7_markJoined : CB := [(0, [(.aload_n 0, 1, []), (.getfield 33, 3, [7, 4, 1]), (.iconst 0, 1, []), (.invokestatic 113, 3, [322, 2]), (.aload_n 0, 1, []), (.getfield 36, 3, [7, 5, 1]), (.iconst 0, 1, []), (.aload_n 0, 1, []), (.getfield 15, 3, [7, 1, 1]), (.iload_n 1, 1, []), (.iconst 0, 1, []), (.invokevirtual 102, 3, [36, 3, 3]), (.iastore, 1, []), (.aload_n 0, 1, []), (.getfield 33, 3, [7, 4, 1]), (.aload_n 0, 1, []), (.getfield 36, 3, [7, 5, 1]), (.iconst 0, 1, []), (.iaload, 1, []), (.iconst 1, 1, []), (.iastore, 1, []), (.iconst 1, 1, []), (.istore_n 2, 1, []), (.iconst 0, 1, []), (.istore_n 3, 1, []), (.nop, 0, [1])]),
  (39, [(.iload_n 3, 1, []), (.iload_n 2, 1, []), (.if_icmp .ge 119, 3, [5]), (.iload_n 3, 1, []), (.aload_n 0, 1, []), (.getfield 9, 3, [7, 0, 1]), (.getfield 23, 3, [2, 4, 0]), (.if_icmp .ge 108, 3, [5]), (.aload_n 0, 1, []), (.getfield 15, 3, [7, 1, 1]), (.iload_n 1, 1, []), (.aload_n 0, 1, []), (.getfield 36, 3, [7, 5, 1]), (.iload_n 3, 1, []), (.iaload, 1, []), (.invokevirtual 119, 3, [53, 3, 3]), (.istore 4, 2, []), (.iconst 0, 1, []), (.istore 5, 2, []), (.nop, 0, [2])]),
  (74, [(.iload 5, 2, []), (.bipush 6, 2, []), (.if_icmp .ge 76, 3, [4]), (.aload_n 0, 1, []), (.getfield 9, 3, [7, 0, 1]), (.getfield 122, 3, [2, 5, 1]), (.aload_n 0, 1, []), (.getfield 36, 3, [7, 5, 1]), (.iload_n 3, 1, []), (.iaload, 1, []), (.bipush 6, 2, []), (.imul, 1, []), (.iload 5, 2, []), (.iadd, 1, []), (.iaload, 1, []), (.istore 6, 2, []), (.iload 4, 2, []), (.iload 5, 2, []), (.ishr, 1, []), (.iconst 1, 1, []), (.iand, 1, []), (.ifCond .eq 38, 3, [3]), (.iload 6, 2, []), (.iconst (-1), 1, []), (.if_icmp .eq 32, 3, [3]), (.aload_n 0, 1, []), (.getfield 33, 3, [7, 4, 1]), (.iload 6, 2, []), (.iaload, 1, []), (.ifCond .ne 22, 3, [3]), (.aload_n 0, 1, []), (.getfield 33, 3, [7, 4, 1]), (.iload 6, 2, []), (.iconst 1, 1, []), (.iastore, 1, []), (.aload_n 0, 1, []), (.getfield 36, 3, [7, 5, 1]), (.iload_n 2, 1, []), (.iload 6, 2, []), (.iastore, 1, []), (.iinc 2 1, 3, []), (.nop, 0, [3])]),
  (148, [(.iinc 5 1, 3, []), (.goto (-77), 3, [2])]),
  (154, [(.iinc 3 1, 3, []), (.goto (-118), 3, [1])]),
  (160, [(.return_, 1, [])])]
abbrev M_X7_markJoined : Md := (92, 7, 7, none, P_X7_markJoined)
theorem ok_X7_markJoined : k_okM M_X7_markJoined := by unfold k_okM; decide +kernel
