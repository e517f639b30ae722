/-! code as data (written by wip/whole/gencode.py) -/
def P_X12_lengthOf : CB := [(0, [(.iconst 0, 1, []), (.istore_n 2, 1, []), (.iconst 0, 1, []), (.istore_n 3, 1, []), (.nop, 0, [1])]),
  (4, [(.iload_n 3, 1, []), (.aload_n 0, 1, []), (.getfield 58, 3, [12, 22, 1]), (.iload_n 1, 1, []), (.iaload, 1, []), (.if_icmp .ge 50, 3, [4]), (.iload_n 2, 1, []), (.aload_n 0, 1, []), (.getfield 61, 3, [12, 23, 1]), (.sipush 2400, 3, []), (.iload_n 1, 1, []), (.imul, 1, []), (.iload_n 3, 1, []), (.iadd, 1, []), (.iaload, 1, []), (.invokestatic 211, 3, [203, 1]), (.aload_n 0, 1, []), (.getfield 64, 3, [12, 24, 1]), (.sipush 2400, 3, []), (.iload_n 1, 1, []), (.imul, 1, []), (.iload_n 3, 1, []), (.iadd, 1, []), (.iaload, 1, []), (.invokestatic 211, 3, [203, 1]), (.if_icmp .ne 7, 3, [2]), (.iconst 1, 1, []), (.goto 4, 3, [3])]),
  (52, [(.iconst 0, 1, []), (.nop, 0, [3])]),
  (53, [(.iadd, 1, []), (.istore_n 2, 1, []), (.iinc 3 1, 3, []), (.goto (-54), 3, [1])]),
  (61, [(.iload_n 2, 1, []), (.ireturn, 1, [])])]
abbrev M_X12_lengthOf : Md := (261, 12, 4, (some .int), P_X12_lengthOf)
theorem ok_X12_lengthOf : k_okM M_X12_lengthOf := by unfold k_okM; decide +kernel
def P_X12_about : CB := [(0, [(.aload_n 0, 1, []), (.iload_n 1, 1, []), (.invokevirtual 220, 3, [198, 2, 12]), (.ifCond .eq 12, 3, [1]), (.iload_n 2, 1, []), (.iconst 0, 1, []), (.iconst 4, 1, []), (.invokestatic 175, 3, [179, 3]), (.ifCond .ne 5, 3, [2]), (.nop, 0, [1])]),
  (17, [(.iconst (-1), 1, []), (.ireturn, 1, [])]),
  (19, [(.iconst 0, 1, []), (.istore_n 3, 1, []), (.iconst 0, 1, []), (.istore 4, 2, []), (.nop, 0, [3])]),
  (24, [(.iload 4, 2, []), (.sipush 324, 3, []), (.if_icmp .ge 27, 3, [6]), (.iload_n 3, 1, []), (.aload_n 0, 1, []), (.iload_n 1, 1, []), (.iload 4, 2, []), (.invokevirtual 236, 3, [213, 3, 12]), (.ifCond .eq 7, 3, [4]), (.iconst 1, 1, []), (.goto 4, 3, [5])]),
  (47, [(.iconst 0, 1, []), (.nop, 0, [5])]),
  (48, [(.iadd, 1, []), (.istore_n 3, 1, []), (.iinc 4 1, 3, []), (.goto (-29), 3, [3])]),
  (56, [(.aload_n 0, 1, []), (.iload_n 1, 1, []), (.invokevirtual 378, 3, [261, 2, 12]), (.istore 4, 2, []), (.iload_n 2, 1, []), (.ifCond .ne 8, 3, [7]), (.iload 4, 2, []), (.goto 49, 3, [11])]),
  (72, [(.iload_n 2, 1, []), (.iconst 1, 1, []), (.if_icmp .ne 15, 3, [8]), (.aload_n 0, 1, []), (.getfield 58, 3, [12, 22, 1]), (.iload_n 1, 1, []), (.iaload, 1, []), (.iload 4, 2, []), (.isub, 1, []), (.goto 32, 3, [11])]),
  (89, [(.iload_n 2, 1, []), (.iconst 2, 1, []), (.if_icmp .ne 7, 3, [9]), (.iload_n 3, 1, []), (.goto 23, 3, [11])]),
  (98, [(.iload_n 2, 1, []), (.iconst 3, 1, []), (.if_icmp .ne 12, 3, [10]), (.aload_n 0, 1, []), (.getfield 43, 3, [12, 17, 1]), (.iload_n 1, 1, []), (.iaload, 1, []), (.goto 9, 3, [11])]),
  (112, [(.aload_n 0, 1, []), (.getfield 40, 3, [12, 16, 1]), (.iload_n 1, 1, []), (.iaload, 1, []), (.nop, 0, [11])]),
  (118, [(.ireturn, 1, [])])]
abbrev M_X12_about : Md := (262, 12, 5, (some .int), P_X12_about)
theorem ok_X12_about : k_okM M_X12_about := by unfold k_okM; decide +kernel
def P_X12_isStretched : CB := [(0, [(.aload_n 0, 1, []), (.iload_n 1, 1, []), (.invokevirtual 220, 3, [198, 2, 12]), (.ifCond .eq 35, 3, [1]), (.aload_n 0, 1, []), (.getfield 43, 3, [12, 17, 1]), (.iload_n 1, 1, []), (.iaload, 1, []), (.iconst 2, 1, []), (.if_icmp .ne 25, 3, [1]), (.aload_n 0, 1, []), (.getfield 49, 3, [12, 19, 1]), (.iload_n 1, 1, []), (.iaload, 1, []), (.ifCond .ne 16, 3, [1]), (.aload_n 0, 1, []), (.getfield 58, 3, [12, 22, 1]), (.iload_n 1, 1, []), (.iaload, 1, []), (.ifCond .le 7, 3, [1]), (.iconst 1, 1, []), (.goto 4, 3, [2])]),
  (40, [(.iconst 0, 1, []), (.nop, 0, [2])]),
  (41, [(.ireturn, 1, [])])]
abbrev M_X12_isStretched : Md := (263, 12, 2, (some .boolean), P_X12_isStretched)
theorem ok_X12_isStretched : k_okM M_X12_isStretched := by unfold k_okM; decide +kernel
def P_X12_wayFrom : CB := [(0, [(.iconst 0, 1, []), (.istore_n 3, 1, []), (.nop, 0, [1])]),
  (2, [(.aload_n 0, 1, []), (.iload_n 1, 1, []), (.iload_n 3, 1, []), (.invokevirtual 229, 3, [204, 3, 12]), (.iload_n 2, 1, []), (.if_icmp .eq 9, 3, [2]), (.iinc 3 1, 3, []), (.goto (-13), 3, [1])]),
  (18, [(.iload_n 3, 1, []), (.ireturn, 1, [])])]
abbrev M_X12_wayFrom : Md := (264, 12, 4, (some .int), P_X12_wayFrom)
theorem ok_X12_wayFrom : k_okM M_X12_wayFrom := by unfold k_okM; decide +kernel
def P_X12_isRoom : CB := [(0, [(.iload_n 2, 1, []), (.iconst (-1), 1, []), (.if_icmp .eq 26, 3, [1]), (.aload_n 0, 1, []), (.iload_n 1, 1, []), (.iload_n 2, 1, []), (.iconst 0, 1, []), (.invokevirtual 259, 3, [218, 4, 12]), (.ifCond .eq 16, 3, [1]), (.aload_n 0, 1, []), (.iload_n 1, 1, []), (.iload_n 2, 1, []), (.invokevirtual 236, 3, [213, 3, 12]), (.ifCond .ne 7, 3, [1]), (.iconst 1, 1, []), (.goto 4, 3, [2])]),
  (28, [(.iconst 0, 1, []), (.nop, 0, [2])]),
  (29, [(.ireturn, 1, [])])]
abbrev M_X12_isRoom : Md := (265, 12, 3, (some .boolean), P_X12_isRoom)
theorem ok_X12_isRoom : k_okM M_X12_isRoom := by unfold k_okM; decide +kernel
def P_X12_bulge : CB := [(0, [(.aload_n 0, 1, []), (.iload_n 2, 1, []), (.iload 4, 2, []), (.invokevirtual 229, 3, [204, 3, 12]), (.istore 5, 2, []), (.aload_n 0, 1, []), (.iload_n 3, 1, []), (.iload 4, 2, []), (.invokevirtual 229, 3, [204, 3, 12]), (.istore 6, 2, []), (.aload_n 0, 1, []), (.iload_n 1, 1, []), (.iload 5, 2, []), (.invokevirtual 381, 3, [265, 3, 12]), (.ifCond .eq 13, 3, [1]), (.aload_n 0, 1, []), (.iload_n 1, 1, []), (.iload 6, 2, []), (.invokevirtual 381, 3, [265, 3, 12]), (.ifCond .ne 5, 3, [2]), (.nop, 0, [1])]),
  (38, [(.iconst 0, 1, []), (.ireturn, 1, [])]),
  (40, [(.aload_n 0, 1, []), (.iload_n 1, 1, []), (.iload_n 2, 1, []), (.iload 5, 2, []), (.invokevirtual 293, 3, [223, 4, 12]), (.aload_n 0, 1, []), (.iload_n 1, 1, []), (.iload 5, 2, []), (.iload 6, 2, []), (.invokevirtual 293, 3, [223, 4, 12]), (.aload_n 0, 1, []), (.iload_n 1, 1, []), (.iload 6, 2, []), (.iload_n 3, 1, []), (.invokevirtual 293, 3, [223, 4, 12]), (.iconst 1, 1, []), (.ireturn, 1, [])])]
abbrev M_X12_bulge : Md := (266, 12, 7, (some .boolean), P_X12_bulge)
theorem ok_X12_bulge : k_okM M_X12_bulge := by unfold k_okM; decide +kernel
def P_X12_stretched : CB := [(0, [(.aload_n 0, 1, []), (.iconst 1, 1, []), (.invokevirtual 309, 3, [236, 2, 12]), (.aload_n 0, 1, []), (.iload_n 1, 1, []), (.invokevirtual 296, 3, [221, 2, 12]), (.iconst 0, 1, []), (.istore_n 3, 1, []), (.nop, 0, [1])]),
  (12, [(.iload_n 3, 1, []), (.aload_n 0, 1, []), (.getfield 263, 3, [12, 33, 0]), (.if_icmp .ge 51, 3, [2]), (.aload_n 0, 1, []), (.getfield 71, 3, [12, 27, 1]), (.sipush 324, 3, []), (.iload_n 1, 1, []), (.imul, 1, []), (.aload_n 0, 1, []), (.getfield 74, 3, [12, 31, 1]), (.iload_n 3, 1, []), (.iaload, 1, []), (.iadd, 1, []), (.dup2, 1, []), (.iaload, 1, []), (.iconst 4, 1, []), (.ior, 1, []), (.iastore, 1, []), (.aload_n 0, 1, []), (.getfield 71, 3, [12, 27, 1]), (.sipush 324, 3, []), (.iload_n 1, 1, []), (.imul, 1, []), (.aload_n 0, 1, []), (.getfield 77, 3, [12, 32, 1]), (.iload_n 3, 1, []), (.iaload, 1, []), (.iadd, 1, []), (.dup2, 1, []), (.iaload, 1, []), (.iconst 4, 1, []), (.ior, 1, []), (.iastore, 1, []), (.iinc 3 1, 3, []), (.goto (-53), 3, [1])]),
  (68, [(.iconst 0, 1, []), (.istore_n 3, 1, []), (.iconst 0, 1, []), (.istore 4, 2, []), (.nop, 0, [3])]),
  (73, [(.iload 4, 2, []), (.aload_n 0, 1, []), (.getfield 263, 3, [12, 33, 0]), (.if_icmp .ge 40, 3, [6]), (.iload_n 3, 1, []), (.aload_n 0, 1, []), (.getfield 74, 3, [12, 31, 1]), (.iload 4, 2, []), (.iaload, 1, []), (.invokestatic 211, 3, [203, 1]), (.aload_n 0, 1, []), (.getfield 77, 3, [12, 32, 1]), (.iload 4, 2, []), (.iaload, 1, []), (.invokestatic 211, 3, [203, 1]), (.if_icmp .ne 7, 3, [4]), (.iconst 1, 1, []), (.goto 4, 3, [5])]),
  (110, [(.iconst 0, 1, []), (.nop, 0, [5])]),
  (111, [(.iadd, 1, []), (.istore_n 3, 1, []), (.iinc 4 1, 3, []), (.goto (-43), 3, [3])]),
  (119, [(.iconst 0, 1, []), (.istore 4, 2, []), (.nop, 0, [7])]),
  (122, [(.iload 4, 2, []), (.aload_n 0, 1, []), (.getfield 263, 3, [12, 33, 0]), (.if_icmp .ge 135, 3, [13]), (.aload_n 0, 1, []), (.aload_n 0, 1, []), (.getfield 74, 3, [12, 31, 1]), (.iload 4, 2, []), (.iaload, 1, []), (.aload_n 0, 1, []), (.getfield 77, 3, [12, 32, 1]), (.iload 4, 2, []), (.iaload, 1, []), (.invokevirtual 384, 3, [264, 3, 12]), (.istore 5, 2, []), (.iload 5, 2, []), (.iconst 4, 1, []), (.if_icmp .ge 70, 3, [9]), (.iload_n 3, 1, []), (.iconst 2, 1, []), (.iadd, 1, []), (.iload_n 2, 1, []), (.if_icmp .gt 63, 3, [9]), (.aload_n 0, 1, []), (.iload_n 1, 1, []), (.aload_n 0, 1, []), (.getfield 74, 3, [12, 31, 1]), (.iload 4, 2, []), (.iaload, 1, []), (.aload_n 0, 1, []), (.getfield 77, 3, [12, 32, 1]), (.iload 4, 2, []), (.iaload, 1, []), (.iload 5, 2, []), (.iconst 3, 1, []), (.iadd, 1, []), (.iconst 4, 1, []), (.irem, 1, []), (.invokevirtual 387, 3, [266, 5, 12]), (.ifCond .ne 31, 3, [8]), (.aload_n 0, 1, []), (.iload_n 1, 1, []), (.aload_n 0, 1, []), (.getfield 74, 3, [12, 31, 1]), (.iload 4, 2, []), (.iaload, 1, []), (.aload_n 0, 1, []), (.getfield 77, 3, [12, 32, 1]), (.iload 4, 2, []), (.iaload, 1, []), (.iload 5, 2, []), (.iconst 1, 1, []), (.iadd, 1, []), (.iconst 4, 1, []), (.irem, 1, []), (.invokevirtual 387, 3, [266, 5, 12]), (.ifCond .eq 7, 3, [9]), (.nop, 0, [8])]),
  (220, [(.iconst 1, 1, []), (.goto 4, 3, [10])]),
  (224, [(.iconst 0, 1, []), (.nop, 0, [10])]),
  (225, [(.istore 6, 2, []), (.iload 6, 2, []), (.ifCond .eq 9, 3, [11]), (.iinc 3 2, 3, []), (.goto 22, 3, [12])]),
  (238, [(.aload_n 0, 1, []), (.iload_n 1, 1, []), (.aload_n 0, 1, []), (.getfield 74, 3, [12, 31, 1]), (.iload 4, 2, []), (.iaload, 1, []), (.aload_n 0, 1, []), (.getfield 77, 3, [12, 32, 1]), (.iload 4, 2, []), (.iaload, 1, []), (.invokevirtual 293, 3, [223, 4, 12]), (.nop, 0, [12])]),
  (257, [(.iinc 4 1, 3, []), (.goto (-138), 3, [7])]),
  (263, [(.iconst 0, 1, []), (.istore 4, 2, []), (.nop, 0, [14])]),
  (266, [(.iload 4, 2, []), (.sipush 324, 3, []), (.if_icmp .ge 26, 3, [15]), (.aload_n 0, 1, []), (.getfield 71, 3, [12, 27, 1]), (.sipush 324, 3, []), (.iload_n 1, 1, []), (.imul, 1, []), (.iload 4, 2, []), (.iadd, 1, []), (.dup2, 1, []), (.iaload, 1, []), (.iconst 3, 1, []), (.iand, 1, []), (.iastore, 1, []), (.iinc 4 1, 3, []), (.goto (-28), 3, [14])]),
  (297, [(.iload_n 3, 1, []), (.ireturn, 1, [])])]
abbrev M_X12_stretched : Md := (267, 12, 7, (some .int), P_X12_stretched)
theorem ok_X12_stretched : k_okM M_X12_stretched := by unfold k_okM; decide +kernel
def P_X12_stretch : CB := [(0, [(.aload_n 0, 1, []), (.iload_n 1, 1, []), (.invokevirtual 390, 3, [263, 2, 12]), (.ifCond .eq 23, 3, [1]), (.iload_n 2, 1, []), (.iconst 0, 1, []), (.sipush 200, 3, []), (.invokestatic 175, 3, [179, 3]), (.ifCond .eq 12, 3, [1]), (.aload_n 0, 1, []), (.iload_n 1, 1, []), (.iload_n 2, 1, []), (.invokevirtual 393, 3, [267, 3, 12]), (.goto 4, 3, [2])]),
  (28, [(.iconst (-1), 1, []), (.nop, 0, [2])]),
  (29, [(.ireturn, 1, [])])]
abbrev M_X12_stretch : Md := (268, 12, 3, (some .int), P_X12_stretch)
theorem ok_X12_stretch : k_okM M_X12_stretch := by unfold k_okM; decide +kernel
def P_X12_span : CB := [(0, [(.aload_n 0, 1, []), (.iload_n 1, 1, []), (.invokevirtual 390, 3, [263, 2, 12]), (.ifCond .ne 5, 3, [1]), (.iconst (-1), 1, []), (.ireturn, 1, [])]),
  (10, [(.aload_n 0, 1, []), (.iload_n 1, 1, []), (.ldc_w 272, 3, [1000000000]), (.invokevirtual 393, 3, [267, 3, 12]), (.istore_n 2, 1, []), (.aload_n 0, 1, []), (.iload_n 1, 1, []), (.invokevirtual 306, 3, [222, 2, 12]), (.iload_n 2, 1, []), (.ireturn, 1, [])])]
abbrev M_X12_span : Md := (269, 12, 3, (some .int), P_X12_span)
theorem ok_X12_span : k_okM M_X12_span := by unfold k_okM; decide +kernel
def P_X12_equal : CB := [(0, [(.iload_n 1, 1, []), (.ifCond .le 23, 3, [1]), (.iload_n 1, 1, []), (.aload_n 0, 1, []), (.getfield 202, 3, [12, 26, 0]), (.ishr, 1, []), (.ifCond .ne 14, 3, [1]), (.iload_n 2, 1, []), (.iconst 0, 1, []), (.sipush 200, 3, []), (.invokestatic 175, 3, [179, 3]), (.ifCond .ne 5, 3, [2]), (.nop, 0, [1])]),
  (24, [(.iconst (-1), 1, []), (.ireturn, 1, [])]),
  (26, [(.ldc_w 272, 3, [1000000000]), (.istore_n 3, 1, []), (.iconst 0, 1, []), (.istore 4, 2, []), (.iconst 0, 1, []), (.istore 5, 2, []), (.nop, 0, [3])]),
  (36, [(.iload 5, 2, []), (.aload_n 0, 1, []), (.getfield 202, 3, [12, 26, 0]), (.if_icmp .ge 43, 3, [5]), (.iload_n 1, 1, []), (.iload 5, 2, []), (.ishr, 1, []), (.iconst 1, 1, []), (.iand, 1, []), (.iconst 1, 1, []), (.if_icmp .ne 27, 3, [4]), (.iload_n 3, 1, []), (.aload_n 0, 1, []), (.iload 5, 2, []), (.invokevirtual 378, 3, [261, 2, 12]), (.invokestatic 3, 3, [1]), (.istore_n 3, 1, []), (.iload 4, 2, []), (.aload_n 0, 1, []), (.iload 5, 2, []), (.invokevirtual 378, 3, [261, 2, 12]), (.invokestatic 9, 3, [0]), (.istore 4, 2, []), (.nop, 0, [4])]),
  (79, [(.iinc 5 1, 3, []), (.goto (-46), 3, [3])]),
  (85, [(.iload 4, 2, []), (.iload_n 3, 1, []), (.isub, 1, []), (.iload_n 2, 1, []), (.if_icmp .gt 7, 3, [6]), (.iconst 1, 1, []), (.goto 4, 3, [7])]),
  (97, [(.iconst 0, 1, []), (.nop, 0, [7])]),
  (98, [(.ireturn, 1, [])])]
abbrev M_X12_equal : Md := (270, 12, 6, (some .int), P_X12_equal)
theorem ok_X12_equal : k_okM M_X12_equal := by unfold k_okM; decide +kernel
def P_X12_spread : CB := [(0, [(.aload_n 0, 1, []), (.iconst 1, 1, []), (.invokevirtual 309, 3, [236, 2, 12]), (.iconst 0, 1, []), (.istore_n 3, 1, []), (.nop, 0, [1])]),
  (7, [(.iload_n 3, 1, []), (.bipush 81, 2, []), (.if_icmp .ge 48, 3, [4]), (.bipush 81, 2, []), (.iload_n 2, 1, []), (.imul, 1, []), (.iload_n 3, 1, []), (.iadd, 1, []), (.istore 4, 2, []), (.aload_n 0, 1, []), (.getfield 110, 3, [12, 45, 1]), (.iload_n 3, 1, []), (.aload_n 0, 1, []), (.iload 4, 2, []), (.invokevirtual 328, 3, [246, 2, 12]), (.ifCond .eq 18, 3, [2]), (.aload_n 0, 1, []), (.iload_n 1, 1, []), (.iload 4, 2, []), (.iconst 1, 1, []), (.invokevirtual 259, 3, [218, 4, 12]), (.ifCond .eq 7, 3, [2]), (.iconst 1, 1, []), (.goto 4, 3, [3])]),
  (50, [(.iconst 0, 1, []), (.nop, 0, [3])]),
  (51, [(.bastore, 1, []), (.iinc 3 1, 3, []), (.goto (-48), 3, [1])]),
  (58, [(.return_, 1, [])])]
abbrev M_X12_spread : Md := (271, 12, 5, none, P_X12_spread)
theorem ok_X12_spread : k_okM M_X12_spread := by unfold k_okM; decide +kernel
def P_X12_parts : CB := [(0, [(.iconst 0, 1, []), (.istore 5, 2, []), (.nop, 0, [1])]),
  (3, [(.iload 5, 2, []), (.bipush 81, 2, []), (.if_icmp .ge 38, 3, [4]), (.aload_n 0, 1, []), (.getfield 113, 3, [12, 46, 1]), (.iload 5, 2, []), (.aload_n 0, 1, []), (.getfield 110, 3, [12, 45, 1]), (.iload 5, 2, []), (.baload, 1, []), (.ifCond .eq 14, 3, [2]), (.iload 5, 2, []), (.iload_n 3, 1, []), (.if_icmp .eq 8, 3, [2]), (.iload 5, 2, []), (.goto 4, 3, [3])]),
  (37, [(.iconst (-1), 1, []), (.nop, 0, [3])]),
  (38, [(.iastore, 1, []), (.iinc 5 1, 3, []), (.goto (-39), 3, [1])]),
  (45, [(.iconst 1, 1, []), (.istore 5, 2, []), (.nop, 0, [5])]),
  (48, [(.iload 5, 2, []), (.ifCond .eq 47, 3, [11]), (.iconst 0, 1, []), (.istore 5, 2, []), (.iconst 0, 1, []), (.istore 6, 2, []), (.nop, 0, [6])]),
  (59, [(.iload 6, 2, []), (.bipush 81, 2, []), (.if_icmp .ge 31, 3, [10]), (.aload_n 0, 1, []), (.iload 6, 2, []), (.iload_n 2, 1, []), (.invokevirtual 396, 3, [273, 3, 12]), (.ifCond .ne 8, 3, [7]), (.iload 5, 2, []), (.ifCond .eq 7, 3, [8]), (.nop, 0, [7])]),
  (81, [(.iconst 1, 1, []), (.goto 4, 3, [9])]),
  (85, [(.iconst 0, 1, []), (.nop, 0, [9])]),
  (86, [(.istore 5, 2, []), (.iinc 6 1, 3, []), (.goto (-32), 3, [6])]),
  (94, [(.goto (-46), 3, [5])]),
  (97, [(.iconst 0, 1, []), (.istore 6, 2, []), (.iconst 0, 1, []), (.istore 7, 2, []), (.nop, 0, [12])]),
  (103, [(.iload 7, 2, []), (.bipush 81, 2, []), (.if_icmp .ge 96, 3, [21]), (.aload_n 0, 1, []), (.getfield 113, 3, [12, 46, 1]), (.iload 7, 2, []), (.iaload, 1, []), (.iload 7, 2, []), (.if_icmp .ne 78, 3, [20]), (.iconst 0, 1, []), (.istore 8, 2, []), (.iconst 0, 1, []), (.istore 9, 2, []), (.nop, 0, [13])]),
  (128, [(.iload 9, 2, []), (.bipush 81, 2, []), (.if_icmp .ge 48, 3, [17]), (.iload 8, 2, []), (.ifCond .ne 30, 3, [14]), (.aload_n 0, 1, []), (.getfield 113, 3, [12, 46, 1]), (.iload 9, 2, []), (.iaload, 1, []), (.iload 7, 2, []), (.if_icmp .ne 22, 3, [15]), (.aload_n 0, 1, []), (.iload_n 1, 1, []), (.bipush 81, 2, []), (.iload_n 2, 1, []), (.imul, 1, []), (.iload 9, 2, []), (.iadd, 1, []), (.invokevirtual 236, 3, [213, 3, 12]), (.ifCond .eq 7, 3, [15]), (.nop, 0, [14])]),
  (167, [(.iconst 1, 1, []), (.goto 4, 3, [16])]),
  (171, [(.iconst 0, 1, []), (.nop, 0, [16])]),
  (172, [(.istore 8, 2, []), (.iinc 9 1, 3, []), (.goto (-49), 3, [13])]),
  (180, [(.iload 6, 2, []), (.iload 8, 2, []), (.iload 4, 2, []), (.if_icmp .ne 7, 3, [18]), (.iconst 1, 1, []), (.goto 4, 3, [19])]),
  (193, [(.iconst 0, 1, []), (.nop, 0, [19])]),
  (194, [(.iadd, 1, []), (.istore 6, 2, []), (.nop, 0, [20])]),
  (197, [(.iinc 7 1, 3, []), (.goto (-97), 3, [12])]),
  (203, [(.iload 6, 2, []), (.ireturn, 1, [])])]
abbrev M_X12_parts : Md := (272, 12, 10, (some .int), P_X12_parts)
theorem ok_X12_parts : k_okM M_X12_parts := by unfold k_okM; decide +kernel
def P_X12_mingle : CB := [(0, [(.iconst 0, 1, []), (.istore_n 3, 1, []), (.iconst 0, 1, []), (.istore 4, 2, []), (.nop, 0, [1])]),
  (5, [(.iload 4, 2, []), (.iconst 4, 1, []), (.if_icmp .ge 100, 3, [5]), (.aload_n 0, 1, []), (.getfield 113, 3, [12, 46, 1]), (.iload_n 1, 1, []), (.iaload, 1, []), (.iconst (-1), 1, []), (.if_icmp .eq 90, 3, [5]), (.aload_n 0, 1, []), (.bipush 81, 2, []), (.iload_n 2, 1, []), (.imul, 1, []), (.iload_n 1, 1, []), (.iadd, 1, []), (.iload 4, 2, []), (.invokevirtual 229, 3, [204, 3, 12]), (.istore 5, 2, []), (.iload 5, 2, []), (.iconst (-1), 1, []), (.if_icmp .ne 7, 3, [2]), (.iconst (-1), 1, []), (.goto 10, 3, [3])]),
  (45, [(.iload 5, 2, []), (.bipush 81, 2, []), (.iload_n 2, 1, []), (.imul, 1, []), (.isub, 1, []), (.nop, 0, [3])]),
  (52, [(.istore 6, 2, []), (.iload 6, 2, []), (.iconst (-1), 1, []), (.if_icmp .eq 45, 3, [4]), (.aload_n 0, 1, []), (.getfield 113, 3, [12, 46, 1]), (.iload 6, 2, []), (.iaload, 1, []), (.iconst (-1), 1, []), (.if_icmp .eq 34, 3, [4]), (.aload_n 0, 1, []), (.getfield 113, 3, [12, 46, 1]), (.iload 6, 2, []), (.iaload, 1, []), (.aload_n 0, 1, []), (.getfield 113, 3, [12, 46, 1]), (.iload_n 1, 1, []), (.iaload, 1, []), (.if_icmp .ge 18, 3, [4]), (.aload_n 0, 1, []), (.getfield 113, 3, [12, 46, 1]), (.iload_n 1, 1, []), (.aload_n 0, 1, []), (.getfield 113, 3, [12, 46, 1]), (.iload 6, 2, []), (.iaload, 1, []), (.iastore, 1, []), (.iconst 1, 1, []), (.istore_n 3, 1, []), (.nop, 0, [4])]),
  (102, [(.iinc 4 1, 3, []), (.goto (-100), 3, [1])]),
  (108, [(.iload_n 3, 1, []), (.ireturn, 1, [])])]
abbrev M_X12_mingle : Md := (273, 12, 7, (some .boolean), P_X12_mingle)
theorem ok_X12_mingle : k_okM M_X12_mingle := by unfold k_okM; decide +kernel
