/-! code as data (written by wip/whole/gencode.py) -/
def P_X3_addPin : CB := [(0, [(.aload_n 0, 1, []), (.getfield 21, 3, [3, 4, 1]), (.iload_n 1, 1, []), (.iaload, 1, []), (.istore_n 3, 1, []), (.aload_n 0, 1, []), (.getfield 24, 3, [3, 5, 1]), (.iload_n 1, 1, []), (.iconst 4, 1, []), (.imul, 1, []), (.iload_n 3, 1, []), (.iadd, 1, []), (.iload_n 2, 1, []), (.iastore, 1, []), (.aload_n 0, 1, []), (.getfield 21, 3, [3, 4, 1]), (.iload_n 1, 1, []), (.dup2, 1, []), (.iaload, 1, []), (.iconst 1, 1, []), (.iadd, 1, []), (.iastore, 1, []), (.aload_n 0, 1, []), (.getfield 40, 3, [3, 7, 1]), (.iload_n 2, 1, []), (.dup2, 1, []), (.iaload, 1, []), (.iconst 1, 1, []), (.iload_n 1, 1, []), (.ishl, 1, []), (.ior, 1, []), (.iastore, 1, []), (.iload_n 3, 1, []), (.ireturn, 1, [])])]
abbrev M_X3_addPin : Md := (37, 3, 4, (some .int), P_X3_addPin)
theorem ok_X3_addPin : k_okM M_X3_addPin := by unfold k_okM; decide +kernel
def P_X3_movePin : CB := [(0, [(.aload_n 0, 1, []), (.getfield 24, 3, [3, 5, 1]), (.iload_n 1, 1, []), (.iconst 4, 1, []), (.imul, 1, []), (.iload_n 2, 1, []), (.iadd, 1, []), (.iload_n 3, 1, []), (.iastore, 1, []), (.aload_n 0, 1, []), (.iload_n 1, 1, []), (.invokevirtual 74, 3, [47, 2, 3]), (.return_, 1, [])])]
abbrev M_X3_movePin : Md := (38, 3, 4, none, P_X3_movePin)
theorem ok_X3_movePin : k_okM M_X3_movePin := by unfold k_okM; decide +kernel
def P_X3_close : CB := [(0, [(.iload_n 2, 1, []), (.istore 6, 2, []), (.nop, 0, [1])]),
  (3, [(.iload 6, 2, []), (.iload 4, 2, []), (.if_icmp .gt 54, 3, [4]), (.iload_n 1, 1, []), (.istore 7, 2, []), (.nop, 0, [2])]),
  (13, [(.iload 7, 2, []), (.iload_n 3, 1, []), (.if_icmp .gt 39, 3, [3]), (.aload_n 0, 1, []), (.getfield 37, 3, [3, 6, 1]), (.iload 5, 2, []), (.aload_n 0, 1, []), (.getfield 27, 3, [3, 0, 1]), (.getfield 78, 3, [2, 3, 0]), (.imul, 1, []), (.iload 6, 2, []), (.aload_n 0, 1, []), (.getfield 27, 3, [3, 0, 1]), (.getfield 81, 3, [2, 0, 0]), (.imul, 1, []), (.iadd, 1, []), (.iload 7, 2, []), (.iadd, 1, []), (.iconst 1, 1, []), (.iastore, 1, []), (.iinc 7 1, 3, []), (.goto (-39), 3, [2])]),
  (55, [(.iinc 6 1, 3, []), (.goto (-55), 3, [1])]),
  (61, [(.return_, 1, [])])]
abbrev M_X3_close : Md := (39, 3, 8, none, P_X3_close)
theorem ok_X3_close : k_okM M_X3_close := by unfold k_okM; decide +kernel
def P_X3_addWire : CB := [(0, [(.iload_n 2, 1, []), (.istore 5, 2, []), (.iconst 0, 1, []), (.istore 6, 2, []), (.nop, 0, [1])]),
  (6, [(.iload 6, 2, []), (.iload 4, 2, []), (.if_icmp .ge 33, 3, [2]), (.iload 5, 2, []), (.iconst (-1), 1, []), (.if_icmp .eq 27, 3, [2]), (.aload_n 0, 1, []), (.aload_n 0, 1, []), (.getfield 46, 3, [3, 9, 1]), (.aload_n 0, 1, []), (.getfield 40, 3, [3, 7, 1]), (.iload_n 1, 1, []), (.iload 5, 2, []), (.iload_n 3, 1, []), (.invokevirtual 84, 3, [42, 6, 3]), (.istore 5, 2, []), (.iinc 6 1, 3, []), (.goto (-34), 3, [1])]),
  (43, [(.return_, 1, [])])]
abbrev M_X3_addWire : Md := (40, 3, 7, none, P_X3_addWire)
theorem ok_X3_addWire : k_okM M_X3_addWire := by unfold k_okM; decide +kernel
def P_X3_addTrace : CB := [(0, [(.aload_n 0, 1, []), (.aload_n 0, 1, []), (.getfield 49, 3, [3, 10, 1]), (.aload_n 0, 1, []), (.getfield 43, 3, [3, 8, 1]), (.iload_n 1, 1, []), (.iload_n 2, 1, []), (.iload_n 3, 1, []), (.invokevirtual 84, 3, [42, 6, 3]), (.ireturn, 1, [])])]
abbrev M_X3_addTrace : Md := (41, 3, 4, (some .int), P_X3_addTrace)
theorem ok_X3_addTrace : k_okM M_X3_addTrace := by unfold k_okM; decide +kernel
def P_X3_join : CB := [(0, [(.aload_n 0, 1, []), (.getfield 27, 3, [3, 0, 1]), (.getfield 88, 3, [2, 5, 1]), (.iload 4, 2, []), (.bipush 6, 2, []), (.imul, 1, []), (.iload 5, 2, []), (.iadd, 1, []), (.iaload, 1, []), (.istore 6, 2, []), (.iload 6, 2, []), (.iconst (-1), 1, []), (.if_icmp .ne 5, 3, [1]), (.iconst (-1), 1, []), (.ireturn, 1, [])]),
  (26, [(.aload_n 1, 1, []), (.iload_n 3, 1, []), (.aload_n 0, 1, []), (.getfield 27, 3, [3, 0, 1]), (.getfield 31, 3, [2, 4, 0]), (.imul, 1, []), (.iload 4, 2, []), (.iadd, 1, []), (.dup2, 1, []), (.iaload, 1, []), (.iconst 1, 1, []), (.iload 5, 2, []), (.ishl, 1, []), (.ior, 1, []), (.iastore, 1, []), (.aload_n 1, 1, []), (.iload_n 3, 1, []), (.aload_n 0, 1, []), (.getfield 27, 3, [3, 0, 1]), (.getfield 31, 3, [2, 4, 0]), (.imul, 1, []), (.iload 6, 2, []), (.iadd, 1, []), (.dup2, 1, []), (.iaload, 1, []), (.iconst 1, 1, []), (.getstatic 91, 3, [0]), (.iload 5, 2, []), (.iaload, 1, []), (.ishl, 1, []), (.ior, 1, []), (.iastore, 1, []), (.aload_n 2, 1, []), (.iload 4, 2, []), (.dup2, 1, []), (.iaload, 1, []), (.iconst 1, 1, []), (.iload_n 3, 1, []), (.ishl, 1, []), (.ior, 1, []), (.iastore, 1, []), (.aload_n 2, 1, []), (.iload 6, 2, []), (.dup2, 1, []), (.iaload, 1, []), (.iconst 1, 1, []), (.iload_n 3, 1, []), (.ishl, 1, []), (.ior, 1, []), (.iastore, 1, []), (.iload 6, 2, []), (.ireturn, 1, [])])]
abbrev M_X3_join : Md := (42, 3, 7, (some .int), P_X3_join)
theorem ok_X3_join : k_okM M_X3_join := by unfold k_okM; decide +kernel
def P_X3_dropTrace : CB := [(0, [(.aload_n 0, 1, []), (.getfield 27, 3, [3, 0, 1]), (.getfield 88, 3, [2, 5, 1]), (.iload_n 2, 1, []), (.bipush 6, 2, []), (.imul, 1, []), (.iload_n 3, 1, []), (.iadd, 1, []), (.iaload, 1, []), (.istore 4, 2, []), (.iload 4, 2, []), (.iconst (-1), 1, []), (.if_icmp .eq 56, 3, [1]), (.aload_n 0, 1, []), (.getfield 49, 3, [3, 10, 1]), (.iload_n 1, 1, []), (.aload_n 0, 1, []), (.getfield 27, 3, [3, 0, 1]), (.getfield 31, 3, [2, 4, 0]), (.imul, 1, []), (.iload_n 2, 1, []), (.iadd, 1, []), (.dup2, 1, []), (.iaload, 1, []), (.iconst 1, 1, []), (.iload_n 3, 1, []), (.ishl, 1, []), (.iconst (-1), 1, []), (.ixor, 1, []), (.iand, 1, []), (.iastore, 1, []), (.aload_n 0, 1, []), (.getfield 49, 3, [3, 10, 1]), (.iload_n 1, 1, []), (.aload_n 0, 1, []), (.getfield 27, 3, [3, 0, 1]), (.getfield 31, 3, [2, 4, 0]), (.imul, 1, []), (.iload 4, 2, []), (.iadd, 1, []), (.dup2, 1, []), (.iaload, 1, []), (.iconst 1, 1, []), (.getstatic 91, 3, [0]), (.iload_n 3, 1, []), (.iaload, 1, []), (.ishl, 1, []), (.iconst (-1), 1, []), (.ixor, 1, []), (.iand, 1, []), (.iastore, 1, []), (.nop, 0, [1])]),
  (75, [(.return_, 1, [])])]
abbrev M_X3_dropTrace : Md := (43, 3, 5, none, P_X3_dropTrace)
theorem ok_X3_dropTrace : k_okM M_X3_dropTrace := by unfold k_okM; decide +kernel
def P_X3_removeTraces : CB := [(0, [(.aload_n 0, 1, []), (.getfield 49, 3, [3, 10, 1]), (.iload_n 1, 1, []), (.aload_n 0, 1, []), (.getfield 27, 3, [3, 0, 1]), (.getfield 31, 3, [2, 4, 0]), (.imul, 1, []), (.iload_n 1, 1, []), (.iconst 1, 1, []), (.iadd, 1, []), (.aload_n 0, 1, []), (.getfield 27, 3, [3, 0, 1]), (.getfield 31, 3, [2, 4, 0]), (.imul, 1, []), (.iconst 0, 1, []), (.invokestatic 94, 3, [323, 4]), (.iconst 0, 1, []), (.istore_n 2, 1, []), (.nop, 0, [1])]),
  (30, [(.iload_n 2, 1, []), (.aload_n 0, 1, []), (.getfield 27, 3, [3, 0, 1]), (.getfield 31, 3, [2, 4, 0]), (.if_icmp .ge 23, 3, [2]), (.aload_n 0, 1, []), (.getfield 43, 3, [3, 8, 1]), (.iload_n 2, 1, []), (.dup2, 1, []), (.iaload, 1, []), (.iconst 1, 1, []), (.iload_n 1, 1, []), (.ishl, 1, []), (.iconst (-1), 1, []), (.ixor, 1, []), (.iand, 1, []), (.iastore, 1, []), (.iinc 2 1, 3, []), (.goto (-28), 3, [1])]),
  (61, [(.return_, 1, [])])]
abbrev M_X3_removeTraces : Md := (44, 3, 3, none, P_X3_removeTraces)
theorem ok_X3_removeTraces : k_okM M_X3_removeTraces := by unfold k_okM; decide +kernel
def P_X3_removeAllTraces : CB := [(0, [(.aload_n 0, 1, []), (.getfield 49, 3, [3, 10, 1]), (.iconst 0, 1, []), (.invokestatic 100, 3, [322, 2]), (.aload_n 0, 1, []), (.getfield 43, 3, [3, 8, 1]), (.iconst 0, 1, []), (.invokestatic 100, 3, [322, 2]), (.return_, 1, [])])]
abbrev M_X3_removeAllTraces : Md := (45, 3, 1, none, P_X3_removeAllTraces)
theorem ok_X3_removeAllTraces : k_okM M_X3_removeAllTraces := by unfold k_okM; decide +kernel
def P_X3_removeWires : CB := [(0, [(.aload_n 0, 1, []), (.getfield 46, 3, [3, 9, 1]), (.iload_n 1, 1, []), (.aload_n 0, 1, []), (.getfield 27, 3, [3, 0, 1]), (.getfield 31, 3, [2, 4, 0]), (.imul, 1, []), (.iload_n 1, 1, []), (.iconst 1, 1, []), (.iadd, 1, []), (.aload_n 0, 1, []), (.getfield 27, 3, [3, 0, 1]), (.getfield 31, 3, [2, 4, 0]), (.imul, 1, []), (.iconst 0, 1, []), (.invokestatic 94, 3, [323, 4]), (.aload_n 0, 1, []), (.iload_n 1, 1, []), (.invokevirtual 74, 3, [47, 2, 3]), (.return_, 1, [])])]
abbrev M_X3_removeWires : Md := (46, 3, 2, none, P_X3_removeWires)
theorem ok_X3_removeWires : k_okM M_X3_removeWires := by unfold k_okM; decide +kernel
def P_X3_settle : CB := [(0, [(.iconst 0, 1, []), (.istore_n 2, 1, []), (.nop, 0, [1])]),
  (2, [(.iload_n 2, 1, []), (.aload_n 0, 1, []), (.getfield 27, 3, [3, 0, 1]), (.getfield 31, 3, [2, 4, 0]), (.if_icmp .ge 57, 3, [4]), (.aload_n 0, 1, []), (.getfield 46, 3, [3, 9, 1]), (.iload_n 1, 1, []), (.aload_n 0, 1, []), (.getfield 27, 3, [3, 0, 1]), (.getfield 31, 3, [2, 4, 0]), (.imul, 1, []), (.iload_n 2, 1, []), (.iadd, 1, []), (.iaload, 1, []), (.ifCond .eq 18, 3, [2]), (.aload_n 0, 1, []), (.getfield 40, 3, [3, 7, 1]), (.iload_n 2, 1, []), (.dup2, 1, []), (.iaload, 1, []), (.iconst 1, 1, []), (.iload_n 1, 1, []), (.ishl, 1, []), (.ior, 1, []), (.iastore, 1, []), (.goto 17, 3, [3])]),
  (47, [(.aload_n 0, 1, []), (.getfield 40, 3, [3, 7, 1]), (.iload_n 2, 1, []), (.dup2, 1, []), (.iaload, 1, []), (.iconst 1, 1, []), (.iload_n 1, 1, []), (.ishl, 1, []), (.iconst (-1), 1, []), (.ixor, 1, []), (.iand, 1, []), (.iastore, 1, []), (.nop, 0, [3])]),
  (61, [(.iinc 2 1, 3, []), (.goto (-62), 3, [1])]),
  (67, [(.iconst 0, 1, []), (.istore_n 2, 1, []), (.nop, 0, [5])]),
  (69, [(.iload_n 2, 1, []), (.aload_n 0, 1, []), (.getfield 21, 3, [3, 4, 1]), (.iload_n 1, 1, []), (.iaload, 1, []), (.if_icmp .ge 26, 3, [6]), (.aload_n 0, 1, []), (.getfield 40, 3, [3, 7, 1]), (.aload_n 0, 1, []), (.iload_n 1, 1, []), (.iload_n 2, 1, []), (.invokevirtual 70, 3, [36, 3, 3]), (.dup2, 1, []), (.iaload, 1, []), (.iconst 1, 1, []), (.iload_n 1, 1, []), (.ishl, 1, []), (.ior, 1, []), (.iastore, 1, []), (.iinc 2 1, 3, []), (.goto (-30), 3, [5])]),
  (102, [(.return_, 1, [])])]
abbrev M_X3_settle : Md := (47, 3, 3, none, P_X3_settle)
theorem ok_X3_settle : k_okM M_X3_settle := by unfold k_okM; decide +kernel
def P_X3_hasTraces : CB := [(0, [(.aload_n 0, 1, []), (.aload_n 0, 1, []), (.getfield 49, 3, [3, 10, 1]), (.iload_n 1, 1, []), (.bipush 63, 2, []), (.invokevirtual 103, 3, [51, 4, 3]), (.ireturn, 1, [])])]
abbrev M_X3_hasTraces : Md := (48, 3, 2, (some .boolean), P_X3_hasTraces)
theorem ok_X3_hasTraces : k_okM M_X3_hasTraces := by unfold k_okM; decide +kernel
def P_X3_hasWires : CB := [(0, [(.aload_n 0, 1, []), (.aload_n 0, 1, []), (.getfield 46, 3, [3, 9, 1]), (.iload_n 1, 1, []), (.bipush 63, 2, []), (.invokevirtual 103, 3, [51, 4, 3]), (.ireturn, 1, [])])]
abbrev M_X3_hasWires : Md := (49, 3, 2, (some .boolean), P_X3_hasWires)
theorem ok_X3_hasWires : k_okM M_X3_hasWires := by unfold k_okM; decide +kernel
def P_X3_hasHoles : CB := [(0, [(.aload_n 0, 1, []), (.aload_n 0, 1, []), (.getfield 46, 3, [3, 9, 1]), (.iload_n 1, 1, []), (.bipush 16, 2, []), (.invokevirtual 103, 3, [51, 4, 3]), (.ireturn, 1, [])])]
abbrev M_X3_hasHoles : Md := (50, 3, 2, (some .boolean), P_X3_hasHoles)
theorem ok_X3_hasHoles : k_okM M_X3_hasHoles := by unfold k_okM; decide +kernel
def P_X3_anyMove : CB := [(0, [(.iconst 0, 1, []), (.istore 4, 2, []), (.nop, 0, [1])]),
  (3, [(.iload 4, 2, []), (.aload_n 0, 1, []), (.getfield 27, 3, [3, 0, 1]), (.getfield 31, 3, [2, 4, 0]), (.if_icmp .ge 30, 3, [3]), (.aload_n 1, 1, []), (.iload_n 2, 1, []), (.aload_n 0, 1, []), (.getfield 27, 3, [3, 0, 1]), (.getfield 31, 3, [2, 4, 0]), (.imul, 1, []), (.iload 4, 2, []), (.iadd, 1, []), (.iaload, 1, []), (.iload_n 3, 1, []), (.iand, 1, []), (.ifCond .eq 5, 3, [2]), (.iconst 1, 1, []), (.ireturn, 1, [])]),
  (36, [(.iinc 4 1, 3, []), (.goto (-36), 3, [1])]),
  (42, [(.iconst 0, 1, []), (.ireturn, 1, [])])]
abbrev M_X3_anyMove : Md := (51, 3, 5, (some .boolean), P_X3_anyMove)
theorem ok_X3_anyMove : k_okM M_X3_anyMove := by unfold k_okM; decide +kernel
def P_X3_copperAt : CB := [(0, [(.aload_n 0, 1, []), (.getfield 40, 3, [3, 7, 1]), (.iload_n 1, 1, []), (.iaload, 1, []), (.aload_n 0, 1, []), (.getfield 43, 3, [3, 8, 1]), (.iload_n 1, 1, []), (.iaload, 1, []), (.ior, 1, []), (.ireturn, 1, [])])]
abbrev M_X3_copperAt : Md := (52, 3, 2, (some .int), P_X3_copperAt)
theorem ok_X3_copperAt : k_okM M_X3_copperAt := by unfold k_okM; decide +kernel
def P_X3_movesAt : CB := [(0, [(.aload_n 0, 1, []), (.getfield 46, 3, [3, 9, 1]), (.iload_n 1, 1, []), (.aload_n 0, 1, []), (.getfield 27, 3, [3, 0, 1]), (.getfield 31, 3, [2, 4, 0]), (.imul, 1, []), (.iload_n 2, 1, []), (.iadd, 1, []), (.iaload, 1, []), (.aload_n 0, 1, []), (.getfield 49, 3, [3, 10, 1]), (.iload_n 1, 1, []), (.aload_n 0, 1, []), (.getfield 27, 3, [3, 0, 1]), (.getfield 31, 3, [2, 4, 0]), (.imul, 1, []), (.iload_n 2, 1, []), (.iadd, 1, []), (.iaload, 1, []), (.ior, 1, []), (.ireturn, 1, [])])]
abbrev M_X3_movesAt : Md := (53, 3, 3, (some .int), P_X3_movesAt)
theorem ok_X3_movesAt : k_okM M_X3_movesAt := by unfold k_okM; decide +kernel
def P_X3_lengthOf : CB := [(0, [(.iconst 0, 1, []), (.istore_n 2, 1, []), (.iconst 0, 1, []), (.istore_n 3, 1, []), (.nop, 0, [1])]),
  (4, [(.iload_n 3, 1, []), (.aload_n 0, 1, []), (.getfield 27, 3, [3, 0, 1]), (.getfield 31, 3, [2, 4, 0]), (.if_icmp .ge 34, 3, [2]), (.iload_n 2, 1, []), (.aload_n 0, 1, []), (.getfield 49, 3, [3, 10, 1]), (.iload_n 1, 1, []), (.aload_n 0, 1, []), (.getfield 27, 3, [3, 0, 1]), (.getfield 31, 3, [2, 4, 0]), (.imul, 1, []), (.iload_n 3, 1, []), (.iadd, 1, []), (.iaload, 1, []), (.bipush 6, 2, []), (.iand, 1, []), (.invokestatic 107, 3, [316, 1]), (.iadd, 1, []), (.istore_n 2, 1, []), (.iinc 3 1, 3, []), (.goto (-39), 3, [1])]),
  (46, [(.iload_n 2, 1, []), (.ireturn, 1, [])])]
abbrev M_X3_lengthOf : Md := (54, 3, 4, (some .int), P_X3_lengthOf)
theorem ok_X3_lengthOf : k_okM M_X3_lengthOf := by unfold k_okM; decide +kernel
def P_X3_viasOf : CB := [(0, [(.iconst 0, 1, []), (.istore_n 2, 1, []), (.iconst 0, 1, []), (.istore_n 3, 1, []), (.nop, 0, [1])]),
  (4, [(.iload_n 3, 1, []), (.aload_n 0, 1, []), (.getfield 27, 3, [3, 0, 1]), (.getfield 31, 3, [2, 4, 0]), (.if_icmp .ge 32, 3, [2]), (.iload_n 2, 1, []), (.aload_n 0, 1, []), (.getfield 49, 3, [3, 10, 1]), (.iload_n 1, 1, []), (.aload_n 0, 1, []), (.getfield 27, 3, [3, 0, 1]), (.getfield 31, 3, [2, 4, 0]), (.imul, 1, []), (.iload_n 3, 1, []), (.iadd, 1, []), (.iaload, 1, []), (.iconst 4, 1, []), (.ishr, 1, []), (.iconst 1, 1, []), (.iand, 1, []), (.iadd, 1, []), (.istore_n 2, 1, []), (.iinc 3 1, 3, []), (.goto (-37), 3, [1])]),
  (44, [(.iload_n 2, 1, []), (.ireturn, 1, [])])]
abbrev M_X3_viasOf : Md := (55, 3, 4, (some .int), P_X3_viasOf)
theorem ok_X3_viasOf : k_okM M_X3_viasOf := by unfold k_okM; decide +kernel
def P_X3_cellsOf : CB := [(0, [(.iconst 0, 1, []), (.istore_n 2, 1, []), (.iconst 0, 1, []), (.istore_n 3, 1, []), (.nop, 0, [1])]),
  (4, [(.iload_n 3, 1, []), (.aload_n 0, 1, []), (.getfield 27, 3, [3, 0, 1]), (.getfield 31, 3, [2, 4, 0]), (.if_icmp .ge 21, 3, [2]), (.iload_n 2, 1, []), (.aload_n 0, 1, []), (.iload_n 3, 1, []), (.invokevirtual 113, 3, [52, 2, 3]), (.iload_n 1, 1, []), (.ishr, 1, []), (.iconst 1, 1, []), (.iand, 1, []), (.iadd, 1, []), (.istore_n 2, 1, []), (.iinc 3 1, 3, []), (.goto (-26), 3, [1])]),
  (33, [(.iload_n 2, 1, []), (.ireturn, 1, [])])]
abbrev M_X3_cellsOf : Md := (56, 3, 4, (some .int), P_X3_cellsOf)
theorem ok_X3_cellsOf : k_okM M_X3_cellsOf := by unfold k_okM; decide +kernel
def P_X3_saveTraces : CB := [(0, [(.aload_n 0, 1, []), (.getfield 49, 3, [3, 10, 1]), (.iconst 0, 1, []), (.aload_n 0, 1, []), (.getfield 55, 3, [3, 12, 1]), (.iconst 0, 1, []), (.aload_n 0, 1, []), (.getfield 49, 3, [3, 10, 1]), (.arraylength, 1, []), (.invokestatic 61, 3, []), (.aload_n 0, 1, []), (.getfield 43, 3, [3, 8, 1]), (.iconst 0, 1, []), (.aload_n 0, 1, []), (.getfield 52, 3, [3, 11, 1]), (.iconst 0, 1, []), (.aload_n 0, 1, []), (.getfield 43, 3, [3, 8, 1]), (.arraylength, 1, []), (.invokestatic 61, 3, []), (.return_, 1, [])])]
abbrev M_X3_saveTraces : Md := (57, 3, 1, none, P_X3_saveTraces)
theorem ok_X3_saveTraces : k_okM M_X3_saveTraces := by unfold k_okM; decide +kernel
def P_X3_restoreTraces : CB := [(0, [(.aload_n 0, 1, []), (.getfield 55, 3, [3, 12, 1]), (.iconst 0, 1, []), (.aload_n 0, 1, []), (.getfield 49, 3, [3, 10, 1]), (.iconst 0, 1, []), (.aload_n 0, 1, []), (.getfield 49, 3, [3, 10, 1]), (.arraylength, 1, []), (.invokestatic 61, 3, []), (.aload_n 0, 1, []), (.getfield 52, 3, [3, 11, 1]), (.iconst 0, 1, []), (.aload_n 0, 1, []), (.getfield 43, 3, [3, 8, 1]), (.iconst 0, 1, []), (.aload_n 0, 1, []), (.getfield 43, 3, [3, 8, 1]), (.arraylength, 1, []), (.invokestatic 61, 3, []), (.return_, 1, [])])]
abbrev M_X3_restoreTraces : Md := (58, 3, 1, none, P_X3_restoreTraces)
theorem ok_X3_restoreTraces : k_okM M_X3_restoreTraces := by unfold k_okM; decide +kernel
def P_X3_isAsSaved : CB := [(0, [(.iconst 0, 1, []), (.istore_n 1, 1, []), (.nop, 0, [1])]),
  (2, [(.iload_n 1, 1, []), (.aload_n 0, 1, []), (.getfield 49, 3, [3, 10, 1]), (.arraylength, 1, []), (.if_icmp .ge 26, 3, [3]), (.aload_n 0, 1, []), (.getfield 49, 3, [3, 10, 1]), (.iload_n 1, 1, []), (.iaload, 1, []), (.aload_n 0, 1, []), (.getfield 55, 3, [3, 12, 1]), (.iload_n 1, 1, []), (.iaload, 1, []), (.if_icmp .eq 5, 3, [2]), (.iconst 0, 1, []), (.ireturn, 1, [])]),
  (28, [(.iinc 1 1, 3, []), (.goto (-29), 3, [1])]),
  (34, [(.iconst 1, 1, []), (.ireturn, 1, [])])]
abbrev M_X3_isAsSaved : Md := (59, 3, 2, (some .boolean), P_X3_isAsSaved)
theorem ok_X3_isAsSaved : k_okM M_X3_isAsSaved := by unfold k_okM; decide +kernel
def P_X4_figure : CB := [(0, [(.aload_n 0, 1, []), (.getfield 19, 3, [4, 2, 1]), (.iload_n 1, 1, []), (.iconst 1, 1, []), (.invokevirtual 23, 3, [77, 3, 6]), (.aload_n 0, 1, []), (.getfield 19, 3, [4, 2, 1]), (.iload_n 2, 1, []), (.invokevirtual 29, 3, [82, 2, 6]), (.iload_n 3, 1, []), (.ifCond .ne 45, 3, [3]), (.iconst 0, 1, []), (.istore 4, 2, []), (.iconst 0, 1, []), (.istore 5, 2, []), (.nop, 0, [1])]),
  (27, [(.iload 5, 2, []), (.aload_n 0, 1, []), (.getfield 9, 3, [4, 0, 1]), (.getfield 33, 3, [2, 4, 0]), (.if_icmp .ge 24, 3, [2]), (.iload 4, 2, []), (.aload_n 0, 1, []), (.getfield 19, 3, [4, 2, 1]), (.getfield 39, 3, [6, 5, 1]), (.iload 5, 2, []), (.iaload, 1, []), (.iadd, 1, []), (.istore 4, 2, []), (.iinc 5 1, 3, []), (.goto (-30), 3, [1])]),
  (60, [(.iload 4, 2, []), (.ireturn, 1, [])]),
  (63, [(.aload_n 0, 1, []), (.iload_n 2, 1, []), (.invokevirtual 43, 3, [62, 2, 4]), (.iload_n 3, 1, []), (.iconst 1, 1, []), (.if_icmp .ne 8, 3, [4]), (.aload_n 0, 1, []), (.getfield 46, 3, [4, 3, 0]), (.ireturn, 1, [])]),
  (78, [(.iload_n 3, 1, []), (.iconst 2, 1, []), (.if_icmp .ne 10, 3, [5]), (.aload_n 0, 1, []), (.getfield 49, 3, [4, 4, 0]), (.goto 8, 3, [6])]),
  (90, [(.aload_n 0, 1, []), (.iload_n 2, 1, []), (.invokevirtual 52, 3, [64, 2, 4]), (.nop, 0, [6])]),
  (95, [(.ireturn, 1, [])])]
abbrev M_X4_figure : Md := (61, 4, 6, (some .int), P_X4_figure)
theorem ok_X4_figure : k_okM M_X4_figure := by unfold k_okM; decide +kernel
