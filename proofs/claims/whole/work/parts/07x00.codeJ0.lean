/-! code as data (written by wip/whole/gencode.py) -/
def P_J6_numberOfTrailingZeros_0f7a4 : CB := [(0, [(.iload_n 0, 1, []), (.iconst (-1), 1, []), (.ixor, 1, []), (.iload_n 0, 1, []), (.iconst 1, 1, []), (.isub, 1, [0]), (.iand, 1, []), (.istore_n 0, 1, []), (.iload_n 0, 1, []), (.ifCond .gt 8, 3, [1]), (.iload_n 0, 1, []), (.bipush 32, 2, []), (.iand, 1, []), (.ireturn, 1, [])]),
  (17, [(.iconst 1, 1, []), (.istore_n 1, 1, []), (.iload_n 0, 1, []), (.ldc_w 264, 3, [65536]), (.if_icmp .le 11, 3, [2]), (.iinc 1 16, 3, []), (.iload_n 0, 1, []), (.bipush 16, 2, []), (.iushr, 1, []), (.istore_n 0, 1, []), (.nop, 0, [2])]),
  (34, [(.iload_n 0, 1, []), (.sipush 256, 3, []), (.if_icmp .le 11, 3, [3]), (.iinc 1 8, 3, []), (.iload_n 0, 1, []), (.bipush 8, 2, []), (.iushr, 1, []), (.istore_n 0, 1, []), (.nop, 0, [3])]),
  (49, [(.iload_n 0, 1, []), (.bipush 16, 2, []), (.if_icmp .le 10, 3, [4]), (.iinc 1 4, 3, []), (.iload_n 0, 1, []), (.iconst 4, 1, []), (.iushr, 1, []), (.istore_n 0, 1, []), (.nop, 0, [4])]),
  (62, [(.iload_n 0, 1, []), (.iconst 4, 1, []), (.if_icmp .le 10, 3, [5]), (.iinc 1 2, 3, []), (.iload_n 0, 1, []), (.iconst 2, 1, []), (.iushr, 1, []), (.istore_n 0, 1, []), (.nop, 0, [5])]),
  (74, [(.iload_n 1, 1, []), (.iload_n 0, 1, []), (.iconst 1, 1, []), (.iushr, 1, []), (.iadd, 1, [0]), (.ireturn, 1, [])])]
abbrev M_J6_numberOfTrailingZeros_0f7a4 : Md := (315, 14, 2, (some .int), P_J6_numberOfTrailingZeros_0f7a4)
theorem ok_J6_numberOfTrailingZeros_0f7a4 : k_okM M_J6_numberOfTrailingZeros_0f7a4 := by unfold k_okM; decide +kernel
def P_J6_bitCount_0f7a4 : CB := [(0, [(.iload_n 0, 1, []), (.iload_n 0, 1, []), (.iconst 1, 1, []), (.iushr, 1, []), (.ldc_w 265, 3, [1431655765]), (.iand, 1, []), (.isub, 1, [0]), (.istore_n 0, 1, []), (.iload_n 0, 1, []), (.ldc_w 266, 3, [858993459]), (.iand, 1, []), (.iload_n 0, 1, []), (.iconst 2, 1, []), (.iushr, 1, []), (.ldc_w 266, 3, [858993459]), (.iand, 1, []), (.iadd, 1, [0]), (.istore_n 0, 1, []), (.iload_n 0, 1, []), (.iload_n 0, 1, []), (.iconst 4, 1, []), (.iushr, 1, []), (.iadd, 1, [0]), (.ldc_w 267, 3, [252645135]), (.iand, 1, []), (.istore_n 0, 1, []), (.iload_n 0, 1, []), (.iload_n 0, 1, []), (.bipush 8, 2, []), (.iushr, 1, []), (.iadd, 1, [0]), (.istore_n 0, 1, []), (.iload_n 0, 1, []), (.iload_n 0, 1, []), (.bipush 16, 2, []), (.iushr, 1, []), (.iadd, 1, [0]), (.istore_n 0, 1, []), (.iload_n 0, 1, []), (.bipush 63, 2, []), (.iand, 1, []), (.ireturn, 1, [])])]
abbrev M_J6_bitCount_0f7a4 : Md := (316, 14, 1, (some .int), P_J6_bitCount_0f7a4)
theorem ok_J6_bitCount_0f7a4 : k_okM M_J6_bitCount_0f7a4 := by unfold k_okM; decide +kernel
def P_J7_rangeCheck_23922 : CB := [(0, [(.iload_n 1, 1, []), (.iload_n 2, 1, []), (.if_icmp .le 44, 3, [1])]),
  (46, [(.iload_n 1, 1, []), (.ifCond .ge 12, 3, [2])]),
  (59, [(.iload_n 2, 1, []), (.iload_n 0, 1, []), (.if_icmp .le 12, 3, [3])]),
  (73, [(.return_, 1, [])])]
abbrev M_J7_rangeCheck_23922 : Md := (321, 16, 3, none, P_J7_rangeCheck_23922)
theorem ok_J7_rangeCheck_23922 : k_okM M_J7_rangeCheck_23922 := by unfold k_okM; decide +kernel
def P_J7_fill_53178 : CB := [(0, [(.iconst 0, 1, []), (.istore_n 2, 1, []), (.aload_n 0, 1, []), (.arraylength, 1, []), (.istore_n 3, 1, []), (.nop, 0, [1])]),
  (5, [(.iload_n 2, 1, []), (.iload_n 3, 1, []), (.if_icmp .ge 13, 3, [2]), (.aload_n 0, 1, []), (.iload_n 2, 1, []), (.iload_n 1, 1, []), (.iastore, 1, []), (.iinc 2 1, 3, []), (.goto (-12), 3, [1])]),
  (20, [(.return_, 1, [])])]
abbrev M_J7_fill_53178 : Md := (322, 16, 4, none, P_J7_fill_53178)
theorem ok_J7_fill_53178 : k_okM M_J7_fill_53178 := by unfold k_okM; decide +kernel
def P_J7_fill_fda19 : CB := [(0, [(.aload_n 0, 1, []), (.arraylength, 1, []), (.iload_n 1, 1, []), (.iload_n 2, 1, []), (.invokestatic 13, 3, [321, 3]), (.iload_n 1, 1, []), (.istore 4, 2, []), (.nop, 0, [1])]),
  (10, [(.iload 4, 2, []), (.iload_n 2, 1, []), (.if_icmp .ge 14, 3, [2]), (.aload_n 0, 1, []), (.iload 4, 2, []), (.iload_n 3, 1, []), (.iastore, 1, []), (.iinc 4 1, 3, []), (.goto (-14), 3, [1])]),
  (27, [(.return_, 1, [])])]
abbrev M_J7_fill_fda19 : Md := (323, 16, 5, none, P_J7_fill_fda19)
theorem ok_J7_fill_fda19 : k_okM M_J7_fill_fda19 := by unfold k_okM; decide +kernel
def P_L_cell : CB := [(0, [(.iload_n 1, 1, []), (.aload_n 0, 1, []), (.arraylength, 1, []), (.if_icmp .ge 9, 3, [1]), (.aload_n 0, 1, []), (.iload_n 1, 1, []), (.iaload, 1, []), (.goto 4, 3, [2])]),
  (12, [(.iconst 0, 1, []), (.nop, 0, [2])]),
  (13, [(.ireturn, 1, [])])]
abbrev M_L_cell : Md := (324, 13, 2, (some .int), P_L_cell)
theorem ok_L_cell : k_okM M_L_cell := by unfold k_okM; decide +kernel
