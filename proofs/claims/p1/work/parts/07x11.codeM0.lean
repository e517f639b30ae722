/-! code as data (written by wip/whole/gencode.py) -/
def P_X12_in : CB := [(0, [(.iload_n 0, 1, []), (.iload_n 1, 1, []), (.if_icmp .lt 12, 3, [1]), (.iload_n 0, 1, []), (.iload_n 2, 1, []), (.if_icmp .gt 7, 3, [1]), (.iconst 1, 1, []), (.goto 4, 3, [2])]),
  (14, [(.iconst 0, 1, []), (.nop, 0, [2])]),
  (15, [(.ireturn, 1, [])])]
abbrev M_X12_in : Md := (179, 12, 3, (some .boolean), P_X12_in)
theorem ok_X12_in : k_okM M_X12_in := by unfold k_okM; decide +kernel
def P_X12_within : CB := [(0, [(.iload_n 1, 1, []), (.iload_n 2, 1, []), (.iload_n 0, 1, []), (.invokestatic 3, 3, [1]), (.invokestatic 9, 3, [0]), (.ireturn, 1, [])])]
abbrev M_X12_within : Md := (180, 12, 3, (some .int), P_X12_within)
theorem ok_X12_within : k_okM M_X12_within := by unfold k_okM; decide +kernel
def P_X12_thrown : CB := [(0, [(.aload_n 0, 1, []), (.getfield 145, 3, [12, 0, 0]), (.ireturn, 1, [])])]
abbrev M_X12_thrown : Md := (182, 12, 1, (some .int), P_X12_thrown)
theorem ok_X12_thrown : k_okM M_X12_thrown := by unfold k_okM; decide +kernel
def P_X12_byteOf : CB := [(0, [(.iload 5, 2, []), (.iconst 4, 1, []), (.if_icmp .ge 7, 3, [1]), (.iload_n 0, 1, []), (.goto 38, 3, [5])]),
  (10, [(.iload 5, 2, []), (.bipush 8, 2, []), (.if_icmp .ge 7, 3, [2]), (.iload_n 1, 1, []), (.goto 27, 3, [5])]),
  (21, [(.iload 5, 2, []), (.bipush 12, 2, []), (.if_icmp .ge 7, 3, [3]), (.iload_n 2, 1, []), (.goto 16, 3, [5])]),
  (32, [(.iload 5, 2, []), (.bipush 16, 2, []), (.if_icmp .ge 7, 3, [4]), (.iload_n 3, 1, []), (.goto 5, 3, [5])]),
  (43, [(.iload 4, 2, []), (.nop, 0, [5])]),
  (45, [(.istore 6, 2, []), (.iload 6, 2, []), (.bipush 24, 2, []), (.bipush 8, 2, []), (.iload 5, 2, []), (.iconst 4, 1, []), (.irem, 1, []), (.imul, 1, []), (.isub, 1, []), (.ishr, 1, []), (.sipush 255, 3, []), (.iand, 1, []), (.ireturn, 1, [])])]
abbrev M_X12_byteOf : Md := (183, 12, 7, (some .int), P_X12_byteOf)
theorem ok_X12_byteOf : k_okM M_X12_byteOf := by unfold k_okM; decide +kernel
def P_X12_feed : CB := [(0, [(.iconst 0, 1, []), (.istore 6, 2, []), (.iconst 0, 1, []), (.istore 7, 2, []), (.nop, 0, [1])]),
  (6, [(.iload 7, 2, []), (.bipush 20, 2, []), (.if_icmp .ge 34, 3, [4]), (.iload 6, 2, []), (.iload_n 1, 1, []), (.iload_n 2, 1, []), (.iload_n 3, 1, []), (.iload 4, 2, []), (.iload 5, 2, []), (.iload 7, 2, []), (.invokestatic 148, 3, [183, 6]), (.ifCond .eq 7, 3, [2]), (.iconst 1, 1, []), (.goto 4, 3, [3])]),
  (34, [(.iconst 0, 1, []), (.nop, 0, [3])]),
  (35, [(.iadd, 1, []), (.istore 6, 2, []), (.iinc 7 1, 3, []), (.goto (-35), 3, [1])]),
  (44, [(.aload_n 0, 1, []), (.getfield 152, 3, [12, 5, 0]), (.iload 6, 2, []), (.iadd, 1, []), (.bipush 80, 2, []), (.if_icmp .le 5, 3, [5]), (.iconst (-1), 1, []), (.ireturn, 1, [])]),
  (58, [(.iconst 0, 1, []), (.istore 7, 2, []), (.nop, 0, [6])]),
  (61, [(.iload 7, 2, []), (.bipush 20, 2, []), (.if_icmp .ge 49, 3, [8]), (.iload_n 1, 1, []), (.iload_n 2, 1, []), (.iload_n 3, 1, []), (.iload 4, 2, []), (.iload 5, 2, []), (.iload 7, 2, []), (.invokestatic 148, 3, [183, 6]), (.istore 8, 2, []), (.iload 8, 2, []), (.ifCond .eq 24, 3, [7]), (.aload_n 0, 1, []), (.getfield 18, 3, [12, 4, 1]), (.aload_n 0, 1, []), (.getfield 152, 3, [12, 5, 0]), (.iload 8, 2, []), (.iastore, 1, []), (.aload_n 0, 1, []), (.dup, 1, []), (.getfield 152, 3, [12, 5, 0]), (.iconst 1, 1, []), (.iadd, 1, []), (.putfield 152, 3, [12, 5, 0]), (.nop, 0, [7])]),
  (108, [(.iinc 7 1, 3, []), (.goto (-50), 3, [6])]),
  (114, [(.aload_n 0, 1, []), (.getfield 152, 3, [12, 5, 0]), (.ireturn, 1, [])])]
abbrev M_X12_feed : Md := (184, 12, 9, (some .int), P_X12_feed)
theorem ok_X12_feed : k_okM M_X12_feed := by unfold k_okM; decide +kernel
def P_X12_end : CB := [(0, [(.iload_n 1, 1, []), (.ifCond .lt 11, 3, [1]), (.iload_n 1, 1, []), (.aload_n 0, 1, []), (.getfield 152, 3, [12, 5, 0]), (.if_icmp .le 5, 3, [2]), (.nop, 0, [1])]),
  (12, [(.iconst 0, 1, []), (.ireturn, 1, [])]),
  (14, [(.aload_n 0, 1, []), (.iload_n 1, 1, []), (.putfield 152, 3, [12, 5, 0]), (.iconst 1, 1, []), (.ireturn, 1, [])])]
abbrev M_X12_end : Md := (185, 12, 2, (some .boolean), P_X12_end)
theorem ok_X12_end : k_okM M_X12_end := by unfold k_okM; decide +kernel
def P_X12_here : CB := [(0, [(.aload_n 0, 1, []), (.getfield 155, 3, [12, 6, 0]), (.aload_n 0, 1, []), (.getfield 152, 3, [12, 5, 0]), (.if_icmp .ge 15, 3, [1]), (.aload_n 0, 1, []), (.getfield 18, 3, [12, 4, 1]), (.aload_n 0, 1, []), (.getfield 155, 3, [12, 6, 0]), (.iaload, 1, []), (.goto 4, 3, [2])]),
  (23, [(.iconst (-1), 1, []), (.nop, 0, [2])]),
  (24, [(.ireturn, 1, [])])]
abbrev M_X12_here : Md := (186, 12, 1, (some .int), P_X12_here)
theorem ok_X12_here : k_okM M_X12_here := by unfold k_okM; decide +kernel
def P_X12_look : CB := [(0, [(.aload_n 0, 1, []), (.invokevirtual 158, 3, [186, 1, 12]), (.bipush 32, 2, []), (.if_icmp .ne 16, 3, [1]), (.aload_n 0, 1, []), (.dup, 1, []), (.getfield 155, 3, [12, 6, 0]), (.iconst 1, 1, []), (.iadd, 1, []), (.putfield 155, 3, [12, 6, 0]), (.goto (-19), 3, [0])]),
  (22, [(.aload_n 0, 1, []), (.invokevirtual 158, 3, [186, 1, 12]), (.ireturn, 1, [])])]
abbrev M_X12_look : Md := (187, 12, 1, (some .int), P_X12_look)
theorem ok_X12_look : k_okM M_X12_look := by unfold k_okM; decide +kernel
def P_X12_bad : CB := [(0, [(.aload_n 0, 1, []), (.aload_n 0, 1, []), (.getfield 162, 3, [12, 7, 0]), (.iconst (-1), 1, []), (.if_icmp .ne 10, 3, [1]), (.aload_n 0, 1, []), (.getfield 155, 3, [12, 6, 0]), (.goto 7, 3, [2])]),
  (16, [(.aload_n 0, 1, []), (.getfield 162, 3, [12, 7, 0]), (.nop, 0, [2])]),
  (20, [(.putfield 162, 3, [12, 7, 0]), (.return_, 1, [])])]
abbrev M_X12_bad : Md := (188, 12, 1, none, P_X12_bad)
theorem ok_X12_bad : k_okM M_X12_bad := by unfold k_okM; decide +kernel
def P_X12_isDigit : CB := [(0, [(.iload_n 0, 1, []), (.bipush 48, 2, []), (.if_icmp .lt 13, 3, [1]), (.iload_n 0, 1, []), (.bipush 57, 2, []), (.if_icmp .gt 7, 3, [1]), (.iconst 1, 1, []), (.goto 4, 3, [2])]),
  (16, [(.iconst 0, 1, []), (.nop, 0, [2])]),
  (17, [(.ireturn, 1, [])])]
abbrev M_X12_isDigit : Md := (189, 12, 1, (some .boolean), P_X12_isDigit)
theorem ok_X12_isDigit : k_okM M_X12_isDigit := by unfold k_okM; decide +kernel
def P_X12_number : CB := [(0, [(.aload_n 0, 1, []), (.invokevirtual 165, 3, [187, 1, 12]), (.invokestatic 168, 3, [189, 1]), (.ifCond .ne 9, 3, [1]), (.aload_n 0, 1, []), (.invokevirtual 172, 3, [188, 1, 12]), (.iload_n 1, 1, []), (.ireturn, 1, [])]),
  (16, [(.aload_n 0, 1, []), (.invokevirtual 158, 3, [186, 1, 12]), (.bipush 48, 2, []), (.isub, 1, []), (.istore_n 3, 1, []), (.aload_n 0, 1, []), (.dup, 1, []), (.getfield 155, 3, [12, 6, 0]), (.iconst 1, 1, []), (.iadd, 1, []), (.putfield 155, 3, [12, 6, 0]), (.aload_n 0, 1, []), (.invokevirtual 158, 3, [186, 1, 12]), (.invokestatic 168, 3, [189, 1]), (.ifCond .eq 26, 3, [2]), (.bipush 10, 2, []), (.iload_n 3, 1, []), (.imul, 1, []), (.aload_n 0, 1, []), (.invokevirtual 158, 3, [186, 1, 12]), (.iadd, 1, []), (.bipush 48, 2, []), (.isub, 1, []), (.istore_n 3, 1, []), (.aload_n 0, 1, []), (.dup, 1, []), (.getfield 155, 3, [12, 6, 0]), (.iconst 1, 1, []), (.iadd, 1, []), (.putfield 155, 3, [12, 6, 0]), (.nop, 0, [2])]),
  (67, [(.iload_n 3, 1, []), (.iload_n 1, 1, []), (.iload_n 2, 1, []), (.invokestatic 175, 3, [179, 3]), (.ifCond .ne 19, 3, [3]), (.aload_n 0, 1, []), (.dup, 1, []), (.getfield 155, 3, [12, 6, 0]), (.iconst 1, 1, []), (.isub, 1, []), (.putfield 155, 3, [12, 6, 0]), (.aload_n 0, 1, []), (.invokevirtual 172, 3, [188, 1, 12]), (.iload_n 1, 1, []), (.ireturn, 1, [])]),
  (92, [(.aload_n 0, 1, []), (.invokevirtual 158, 3, [186, 1, 12]), (.invokestatic 168, 3, [189, 1]), (.ifCond .eq 7, 3, [4]), (.aload_n 0, 1, []), (.invokevirtual 172, 3, [188, 1, 12]), (.nop, 0, [4])]),
  (106, [(.iload_n 3, 1, []), (.ireturn, 1, [])])]
abbrev M_X12_number : Md := (190, 12, 4, (some .int), P_X12_number)
theorem ok_X12_number : k_okM M_X12_number := by unfold k_okM; decide +kernel
def P_X12_letterAt : CB := [(0, [(.iload_n 1, 1, []), (.bipush 115, 2, []), (.if_icmp .ne 7, 3, [1]), (.iconst 1, 1, []), (.goto 46, 3, [6])]),
  (10, [(.iload_n 1, 1, []), (.bipush 118, 2, []), (.if_icmp .ne 7, 3, [2]), (.iconst 2, 1, []), (.goto 36, 3, [6])]),
  (20, [(.iload_n 1, 1, []), (.bipush 98, 2, []), (.if_icmp .ne 7, 3, [3]), (.iconst 4, 1, []), (.goto 26, 3, [6])]),
  (30, [(.iload_n 1, 1, []), (.bipush 99, 2, []), (.if_icmp .ne 8, 3, [4]), (.bipush 8, 2, []), (.goto 15, 3, [6])]),
  (41, [(.iload_n 1, 1, []), (.bipush 108, 2, []), (.if_icmp .ne 8, 3, [5]), (.bipush 16, 2, []), (.goto 4, 3, [6])]),
  (52, [(.iconst 0, 1, []), (.nop, 0, [6])]),
  (53, [(.ireturn, 1, [])])]
abbrev M_X12_letterAt : Md := (191, 12, 2, (some .int), P_X12_letterAt)
theorem ok_X12_letterAt : k_okM M_X12_letterAt := by unfold k_okM; decide +kernel
def P_X12_setting : CB := [(0, [(.aload_n 0, 1, []), (.invokevirtual 165, 3, [187, 1, 12]), (.istore_n 2, 1, []), (.aload_n 0, 1, []), (.iload_n 2, 1, []), (.invokevirtual 179, 3, [191, 2, 12]), (.istore_n 3, 1, []), (.iload_n 3, 1, []), (.ifCond .eq 12, 3, [1]), (.aload_n 0, 1, []), (.getfield 183, 3, [12, 14, 0]), (.iload_n 3, 1, []), (.iand, 1, []), (.ifCond .eq 8, 3, [2]), (.nop, 0, [1])]),
  (24, [(.aload_n 0, 1, []), (.invokevirtual 172, 3, [188, 1, 12]), (.return_, 1, [])]),
  (29, [(.aload_n 0, 1, []), (.dup, 1, []), (.getfield 183, 3, [12, 14, 0]), (.iload_n 3, 1, []), (.ior, 1, []), (.putfield 183, 3, [12, 14, 0]), (.aload_n 0, 1, []), (.dup, 1, []), (.getfield 155, 3, [12, 6, 0]), (.iconst 1, 1, []), (.iadd, 1, []), (.putfield 155, 3, [12, 6, 0]), (.iload_n 2, 1, []), (.bipush 115, 2, []), (.if_icmp .ne 19, 3, [3]), (.aload_n 0, 1, []), (.getfield 22, 3, [12, 8, 1]), (.iload_n 1, 1, []), (.aload_n 0, 1, []), (.iconst 1, 1, []), (.bipush 9, 2, []), (.invokevirtual 186, 3, [190, 3, 12]), (.iastore, 1, []), (.goto 73, 3, [7])]),
  (71, [(.iload_n 2, 1, []), (.bipush 118, 2, []), (.if_icmp .ne 19, 3, [4]), (.aload_n 0, 1, []), (.getfield 25, 3, [12, 9, 1]), (.iload_n 1, 1, []), (.aload_n 0, 1, []), (.iconst 0, 1, []), (.bipush 99, 2, []), (.invokevirtual 186, 3, [190, 3, 12]), (.iastore, 1, []), (.goto 51, 3, [7])]),
  (93, [(.iload_n 2, 1, []), (.bipush 98, 2, []), (.if_icmp .ne 19, 3, [5]), (.aload_n 0, 1, []), (.getfield 28, 3, [12, 10, 1]), (.iload_n 1, 1, []), (.aload_n 0, 1, []), (.iconst 0, 1, []), (.bipush 99, 2, []), (.invokevirtual 186, 3, [190, 3, 12]), (.iastore, 1, []), (.goto 29, 3, [7])]),
  (115, [(.iload_n 2, 1, []), (.bipush 99, 2, []), (.if_icmp .ne 18, 3, [6]), (.aload_n 0, 1, []), (.getfield 31, 3, [12, 11, 1]), (.iload_n 1, 1, []), (.aload_n 0, 1, []), (.iconst 0, 1, []), (.iconst 2, 1, []), (.invokevirtual 186, 3, [190, 3, 12]), (.iastore, 1, []), (.goto 8, 3, [7])]),
  (136, [(.aload_n 0, 1, []), (.iload_n 1, 1, []), (.invokevirtual 189, 3, [193, 2, 12]), (.nop, 0, [7])]),
  (141, [(.return_, 1, [])])]
abbrev M_X12_setting : Md := (192, 12, 4, none, P_X12_setting)
theorem ok_X12_setting : k_okM M_X12_setting := by unfold k_okM; decide +kernel
def P_X12_readLayers : CB := [(0, [(.iconst 0, 1, []), (.istore_n 2, 1, []), (.nop, 0, [1])]),
  (2, [(.aload_n 0, 1, []), (.getfield 162, 3, [12, 7, 0]), (.iconst (-1), 1, []), (.if_icmp .ne 64, 3, [5]), (.aload_n 0, 1, []), (.invokevirtual 165, 3, [187, 1, 12]), (.invokestatic 168, 3, [189, 1]), (.ifCond .eq 54, 3, [5]), (.aload_n 0, 1, []), (.invokevirtual 158, 3, [186, 1, 12]), (.bipush 48, 2, []), (.isub, 1, []), (.istore_n 3, 1, []), (.iload_n 3, 1, []), (.aload_n 0, 1, []), (.getfield 142, 3, [12, 3, 0]), (.if_icmp .ge 12, 3, [2]), (.iload_n 2, 1, []), (.iload_n 3, 1, []), (.ishr, 1, []), (.iconst 1, 1, []), (.iand, 1, []), (.iconst 1, 1, []), (.if_icmp .ne 10, 3, [3]), (.nop, 0, [2])]),
  (45, [(.aload_n 0, 1, []), (.invokevirtual 172, 3, [188, 1, 12]), (.goto 19, 3, [4])]),
  (52, [(.iload_n 2, 1, []), (.iconst 1, 1, []), (.iload_n 3, 1, []), (.ishl, 1, []), (.ior, 1, []), (.istore_n 2, 1, []), (.aload_n 0, 1, []), (.dup, 1, []), (.getfield 155, 3, [12, 6, 0]), (.iconst 1, 1, []), (.iadd, 1, []), (.putfield 155, 3, [12, 6, 0]), (.nop, 0, [4])]),
  (68, [(.goto (-66), 3, [1])]),
  (71, [(.iload_n 2, 1, []), (.ifCond .ne 7, 3, [6]), (.aload_n 0, 1, []), (.invokevirtual 172, 3, [188, 1, 12]), (.nop, 0, [6])]),
  (79, [(.aload_n 0, 1, []), (.getfield 34, 3, [12, 12, 1]), (.iload_n 1, 1, []), (.iload_n 2, 1, []), (.iastore, 1, []), (.return_, 1, [])])]
abbrev M_X12_readLayers : Md := (193, 12, 4, none, P_X12_readLayers)
theorem ok_X12_readLayers : k_okM M_X12_readLayers := by unfold k_okM; decide +kernel
def P_X12_readSort : CB := [(0, [(.aload_n 0, 1, []), (.iconst 0, 1, []), (.putfield 155, 3, [12, 6, 0]), (.aload_n 0, 1, []), (.iconst (-1), 1, []), (.putfield 162, 3, [12, 7, 0]), (.aload_n 0, 1, []), (.iconst 0, 1, []), (.putfield 183, 3, [12, 14, 0]), (.aload_n 0, 1, []), (.getfield 22, 3, [12, 8, 1]), (.iload_n 1, 1, []), (.iconst 1, 1, []), (.iastore, 1, []), (.aload_n 0, 1, []), (.getfield 25, 3, [12, 9, 1]), (.iload_n 1, 1, []), (.iconst 5, 1, []), (.iastore, 1, []), (.aload_n 0, 1, []), (.getfield 28, 3, [12, 10, 1]), (.iload_n 1, 1, []), (.iconst 0, 1, []), (.iastore, 1, []), (.aload_n 0, 1, []), (.getfield 31, 3, [12, 11, 1]), (.iload_n 1, 1, []), (.iconst 0, 1, []), (.iastore, 1, []), (.aload_n 0, 1, []), (.getfield 34, 3, [12, 12, 1]), (.iload_n 1, 1, []), (.iconst 1, 1, []), (.aload_n 0, 1, []), (.getfield 142, 3, [12, 3, 0]), (.ishl, 1, []), (.iconst 1, 1, []), (.isub, 1, []), (.iastore, 1, []), (.aload_n 0, 1, []), (.iload_n 1, 1, []), (.invokevirtual 193, 3, [192, 2, 12]), (.nop, 0, [1])]),
  (62, [(.aload_n 0, 1, []), (.getfield 162, 3, [12, 7, 0]), (.iconst (-1), 1, []), (.if_icmp .ne 30, 3, [2]), (.aload_n 0, 1, []), (.invokevirtual 165, 3, [187, 1, 12]), (.bipush 44, 2, []), (.if_icmp .ne 21, 3, [2]), (.aload_n 0, 1, []), (.dup, 1, []), (.getfield 155, 3, [12, 6, 0]), (.iconst 1, 1, []), (.iadd, 1, []), (.putfield 155, 3, [12, 6, 0]), (.aload_n 0, 1, []), (.iload_n 1, 1, []), (.invokevirtual 193, 3, [192, 2, 12]), (.goto (-32), 3, [1])]),
  (97, [(.aload_n 0, 1, []), (.getfield 162, 3, [12, 7, 0]), (.iconst (-1), 1, []), (.if_icmp .ne 15, 3, [3]), (.aload_n 0, 1, []), (.invokevirtual 165, 3, [187, 1, 12]), (.iconst (-1), 1, []), (.if_icmp .eq 7, 3, [3]), (.aload_n 0, 1, []), (.invokevirtual 172, 3, [188, 1, 12]), (.nop, 0, [3])]),
  (117, [(.aload_n 0, 1, []), (.getfield 162, 3, [12, 7, 0]), (.ireturn, 1, [])])]
abbrev M_X12_readSort : Md := (194, 12, 2, (some .int), P_X12_readSort)
theorem ok_X12_readSort : k_okM M_X12_readSort := by unfold k_okM; decide +kernel
def P_X12_fault : CB := [(0, [(.aload_n 0, 1, []), (.bipush 6, 2, []), (.invokevirtual 196, 3, [194, 2, 12]), (.ireturn, 1, [])])]
abbrev M_X12_fault : Md := (195, 12, 1, (some .int), P_X12_fault)
theorem ok_X12_fault : k_okM M_X12_fault := by unfold k_okM; decide +kernel
def P_X12_sort : CB := [(0, [(.aload_n 0, 1, []), (.getfield 199, 3, [12, 13, 0]), (.bipush 6, 2, []), (.if_icmp .eq 15, 3, [1]), (.aload_n 0, 1, []), (.aload_n 0, 1, []), (.getfield 199, 3, [12, 13, 0]), (.invokevirtual 196, 3, [194, 2, 12]), (.iconst (-1), 1, []), (.if_icmp .eq 5, 3, [2]), (.nop, 0, [1])]),
  (21, [(.iconst (-1), 1, []), (.ireturn, 1, [])]),
  (23, [(.aload_n 0, 1, []), (.iconst 0, 1, []), (.putfield 152, 3, [12, 5, 0]), (.aload_n 0, 1, []), (.dup, 1, []), (.getfield 199, 3, [12, 13, 0]), (.iconst 1, 1, []), (.iadd, 1, []), (.putfield 199, 3, [12, 13, 0]), (.aload_n 0, 1, []), (.getfield 199, 3, [12, 13, 0]), (.iconst 1, 1, []), (.isub, 1, []), (.ireturn, 1, [])])]
abbrev M_X12_sort : Md := (196, 12, 1, (some .int), P_X12_sort)
theorem ok_X12_sort : k_okM M_X12_sort := by unfold k_okM; decide +kernel
def P_X12_told : CB := [(0, [(.aload_n 0, 1, []), (.iload_n 1, 1, []), (.iconst 0, 1, []), (.aload_n 0, 1, []), (.getfield 199, 3, [12, 13, 0]), (.iconst 1, 1, []), (.isub, 1, []), (.invokestatic 175, 3, [179, 3]), (.ifCond .eq 16, 3, [1]), (.iload_n 2, 1, []), (.iconst 0, 1, []), (.iconst 4, 1, []), (.invokestatic 175, 3, [179, 3]), (.ifCond .eq 7, 3, [1]), (.iconst 0, 1, []), (.goto 4, 3, [2])]),
  (28, [(.iconst 1, 1, []), (.nop, 0, [2])]),
  (29, [(.putfield 145, 3, [12, 0, 0]), (.aload_n 0, 1, []), (.getfield 145, 3, [12, 0, 0]), (.iconst 1, 1, []), (.if_icmp .ne 5, 3, [3]), (.iconst 0, 1, []), (.ireturn, 1, [])]),
  (42, [(.iload_n 2, 1, []), (.ifCond .ne 12, 3, [4]), (.aload_n 0, 1, []), (.getfield 22, 3, [12, 8, 1]), (.iload_n 1, 1, []), (.iaload, 1, []), (.goto 51, 3, [8])]),
  (55, [(.iload_n 2, 1, []), (.iconst 1, 1, []), (.if_icmp .ne 12, 3, [5]), (.aload_n 0, 1, []), (.getfield 25, 3, [12, 9, 1]), (.iload_n 1, 1, []), (.iaload, 1, []), (.goto 37, 3, [8])]),
  (69, [(.iload_n 2, 1, []), (.iconst 2, 1, []), (.if_icmp .ne 12, 3, [6]), (.aload_n 0, 1, []), (.getfield 28, 3, [12, 10, 1]), (.iload_n 1, 1, []), (.iaload, 1, []), (.goto 23, 3, [8])]),
  (83, [(.iload_n 2, 1, []), (.iconst 3, 1, []), (.if_icmp .ne 12, 3, [7]), (.aload_n 0, 1, []), (.getfield 31, 3, [12, 11, 1]), (.iload_n 1, 1, []), (.iaload, 1, []), (.goto 9, 3, [8])]),
  (97, [(.aload_n 0, 1, []), (.getfield 34, 3, [12, 12, 1]), (.iload_n 1, 1, []), (.iaload, 1, []), (.nop, 0, [8])]),
  (103, [(.ireturn, 1, [])])]
abbrev M_X12_told : Md := (197, 12, 3, (some .int), P_X12_told)
theorem ok_X12_told : k_okM M_X12_told := by unfold k_okM; decide +kernel
def P_X12_isNet : CB := [(0, [(.iload_n 1, 1, []), (.iconst 0, 1, []), (.aload_n 0, 1, []), (.getfield 202, 3, [12, 26, 0]), (.iconst 1, 1, []), (.isub, 1, []), (.invokestatic 175, 3, [179, 3]), (.ireturn, 1, [])])]
abbrev M_X12_isNet : Md := (198, 12, 2, (some .boolean), P_X12_isNet)
theorem ok_X12_isNet : k_okM M_X12_isNet := by unfold k_okM; decide +kernel
def P_X12_isCell : CB := [(0, [(.iload_n 1, 1, []), (.iconst 0, 1, []), (.aload_n 0, 1, []), (.getfield 135, 3, [12, 1, 0]), (.iconst 1, 1, []), (.isub, 1, []), (.invokestatic 175, 3, [179, 3]), (.ifCond .eq 35, 3, [1]), (.iload_n 2, 1, []), (.iconst 0, 1, []), (.aload_n 0, 1, []), (.getfield 139, 3, [12, 2, 0]), (.iconst 1, 1, []), (.isub, 1, []), (.invokestatic 175, 3, [179, 3]), (.ifCond .eq 21, 3, [1]), (.iload_n 3, 1, []), (.iconst 0, 1, []), (.aload_n 0, 1, []), (.getfield 142, 3, [12, 3, 0]), (.iconst 1, 1, []), (.isub, 1, []), (.invokestatic 175, 3, [179, 3]), (.ifCond .eq 7, 3, [1]), (.iconst 1, 1, []), (.goto 4, 3, [2])]),
  (46, [(.iconst 0, 1, []), (.nop, 0, [2])]),
  (47, [(.ireturn, 1, [])])]
abbrev M_X12_isCell : Md := (199, 12, 4, (some .boolean), P_X12_isCell)
theorem ok_X12_isCell : k_okM M_X12_isCell := by unfold k_okM; decide +kernel
def P_X12_cell : CB := [(0, [(.bipush 81, 2, []), (.iload_n 2, 1, []), (.imul, 1, []), (.bipush 9, 2, []), (.iload_n 1, 1, []), (.imul, 1, []), (.iadd, 1, []), (.iload_n 0, 1, []), (.iadd, 1, []), (.ireturn, 1, [])])]
abbrev M_X12_cell : Md := (200, 12, 3, (some .int), P_X12_cell)
theorem ok_X12_cell : k_okM M_X12_cell := by unfold k_okM; decide +kernel
def P_X12_xOf : CB := [(0, [(.iload_n 0, 1, []), (.bipush 9, 2, []), (.irem, 1, []), (.ireturn, 1, [])])]
abbrev M_X12_xOf : Md := (201, 12, 1, (some .int), P_X12_xOf)
theorem ok_X12_xOf : k_okM M_X12_xOf := by unfold k_okM; decide +kernel
def P_X12_yOf : CB := [(0, [(.iload_n 0, 1, []), (.bipush 9, 2, []), (.idiv, 1, []), (.bipush 9, 2, []), (.irem, 1, []), (.ireturn, 1, [])])]
abbrev M_X12_yOf : Md := (202, 12, 1, (some .int), P_X12_yOf)
theorem ok_X12_yOf : k_okM M_X12_yOf := by unfold k_okM; decide +kernel
def P_X12_layerOf : CB := [(0, [(.iload_n 0, 1, []), (.bipush 81, 2, []), (.idiv, 1, []), (.ireturn, 1, [])])]
abbrev M_X12_layerOf : Md := (203, 12, 1, (some .int), P_X12_layerOf)
theorem ok_X12_layerOf : k_okM M_X12_layerOf := by unfold k_okM; decide +kernel
def P_X12_moved : CB := [(0, [(.iload_n 1, 1, []), (.invokestatic 205, 3, [201, 1]), (.iload_n 2, 1, []), (.iconst 1, 1, []), (.if_icmp .ne 7, 3, [1]), (.iconst 1, 1, []), (.goto 13, 3, [3])]),
  (13, [(.iload_n 2, 1, []), (.iconst 3, 1, []), (.if_icmp .ne 7, 3, [2]), (.iconst (-1), 1, []), (.goto 4, 3, [3])]),
  (22, [(.iconst 0, 1, []), (.nop, 0, [3])]),
  (23, [(.iadd, 1, []), (.istore_n 3, 1, []), (.iload_n 1, 1, []), (.invokestatic 208, 3, [202, 1]), (.iload_n 2, 1, []), (.iconst 2, 1, []), (.if_icmp .ne 7, 3, [4]), (.iconst 1, 1, []), (.goto 12, 3, [6])]),
  (38, [(.iload_n 2, 1, []), (.ifCond .ne 7, 3, [5]), (.iconst (-1), 1, []), (.goto 4, 3, [6])]),
  (46, [(.iconst 0, 1, []), (.nop, 0, [6])]),
  (47, [(.iadd, 1, []), (.istore 4, 2, []), (.iload_n 1, 1, []), (.invokestatic 211, 3, [203, 1]), (.iload_n 2, 1, []), (.iconst 4, 1, []), (.if_icmp .ne 7, 3, [7]), (.iconst 1, 1, []), (.goto 13, 3, [9])]),
  (63, [(.iload_n 2, 1, []), (.iconst 5, 1, []), (.if_icmp .ne 7, 3, [8]), (.iconst (-1), 1, []), (.goto 4, 3, [9])]),
  (72, [(.iconst 0, 1, []), (.nop, 0, [9])]),
  (73, [(.iadd, 1, []), (.istore 5, 2, []), (.aload_n 0, 1, []), (.iload_n 3, 1, []), (.iload 4, 2, []), (.iload 5, 2, []), (.invokevirtual 214, 3, [199, 4, 12]), (.ifCond .eq 14, 3, [10]), (.iload_n 3, 1, []), (.iload 4, 2, []), (.iload 5, 2, []), (.invokestatic 217, 3, [200, 3]), (.goto 4, 3, [11])]),
  (99, [(.iconst (-1), 1, []), (.nop, 0, [11])]),
  (100, [(.ireturn, 1, [])])]
abbrev M_X12_moved : Md := (204, 12, 6, (some .int), P_X12_moved)
theorem ok_X12_moved : k_okM M_X12_moved := by unfold k_okM; decide +kernel
