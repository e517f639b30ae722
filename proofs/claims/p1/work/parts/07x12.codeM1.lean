/-! code as data (written by wip/whole/gencode.py) -/
def P_X12_net : CB := [(0, [(.iload_n 1, 1, []), (.iconst 0, 1, []), (.aload_n 0, 1, []), (.getfield 199, 3, [12, 13, 0]), (.iconst 1, 1, []), (.isub, 1, []), (.invokestatic 175, 3, [179, 3]), (.ifCond .eq 12, 3, [1]), (.aload_n 0, 1, []), (.getfield 202, 3, [12, 26, 0]), (.bipush 8, 2, []), (.if_icmp .ne 5, 3, [2]), (.nop, 0, [1])]),
  (23, [(.iconst (-1), 1, []), (.ireturn, 1, [])]),
  (25, [(.aload_n 0, 1, []), (.getfield 37, 3, [12, 15, 1]), (.aload_n 0, 1, []), (.getfield 202, 3, [12, 26, 0]), (.iload_n 1, 1, []), (.iastore, 1, []), (.aload_n 0, 1, []), (.dup, 1, []), (.getfield 202, 3, [12, 26, 0]), (.iconst 1, 1, []), (.iadd, 1, []), (.putfield 202, 3, [12, 26, 0]), (.aload_n 0, 1, []), (.getfield 202, 3, [12, 26, 0]), (.iconst 1, 1, []), (.isub, 1, []), (.ireturn, 1, [])])]
abbrev M_X12_net : Md := (205, 12, 2, (some .int), P_X12_net)
theorem ok_X12_net : k_okM M_X12_net := by unfold k_okM; decide +kernel
def P_X12_pinOn : CB := [(0, [(.iconst 0, 1, []), (.istore_n 2, 1, []), (.nop, 0, [1])]),
  (2, [(.iload_n 2, 1, []), (.aload_n 0, 1, []), (.getfield 202, 3, [12, 26, 0]), (.if_icmp .ge 47, 3, [5]), (.iconst 0, 1, []), (.istore_n 3, 1, []), (.nop, 0, [2])]),
  (12, [(.iload_n 3, 1, []), (.aload_n 0, 1, []), (.getfield 43, 3, [12, 17, 1]), (.iload_n 2, 1, []), (.iaload, 1, []), (.if_icmp .ge 29, 3, [4]), (.aload_n 0, 1, []), (.getfield 46, 3, [12, 18, 1]), (.iconst 4, 1, []), (.iload_n 2, 1, []), (.imul, 1, []), (.iload_n 3, 1, []), (.iadd, 1, []), (.iaload, 1, []), (.iload_n 1, 1, []), (.if_icmp .ne 9, 3, [3]), (.iconst 4, 1, []), (.iload_n 2, 1, []), (.imul, 1, []), (.iload_n 3, 1, []), (.iadd, 1, []), (.ireturn, 1, [])]),
  (42, [(.iinc 3 1, 3, []), (.goto (-33), 3, [2])]),
  (48, [(.iinc 2 1, 3, []), (.goto (-49), 3, [1])]),
  (54, [(.iconst (-1), 1, []), (.ireturn, 1, [])])]
abbrev M_X12_pinOn : Md := (206, 12, 4, (some .int), P_X12_pinOn)
theorem ok_X12_pinOn : k_okM M_X12_pinOn := by unfold k_okM; decide +kernel
def P_X12_pin : CB := [(0, [(.aload_n 0, 1, []), (.iload_n 1, 1, []), (.invokevirtual 220, 3, [198, 2, 12]), (.ifCond .eq 39, 3, [1]), (.aload_n 0, 1, []), (.iload_n 2, 1, []), (.iload_n 3, 1, []), (.iload 4, 2, []), (.invokevirtual 214, 3, [199, 4, 12]), (.ifCond .eq 28, 3, [1]), (.aload_n 0, 1, []), (.getfield 43, 3, [12, 17, 1]), (.iload_n 1, 1, []), (.iaload, 1, []), (.iconst 4, 1, []), (.if_icmp .eq 18, 3, [1]), (.aload_n 0, 1, []), (.iload_n 2, 1, []), (.iload_n 3, 1, []), (.iload 4, 2, []), (.invokestatic 217, 3, [200, 3]), (.invokevirtual 223, 3, [206, 2, 12]), (.iconst (-1), 1, []), (.if_icmp .eq 5, 3, [2]), (.nop, 0, [1])]),
  (44, [(.iconst (-1), 1, []), (.ireturn, 1, [])]),
  (46, [(.aload_n 0, 1, []), (.getfield 46, 3, [12, 18, 1]), (.iconst 4, 1, []), (.iload_n 1, 1, []), (.imul, 1, []), (.aload_n 0, 1, []), (.getfield 43, 3, [12, 17, 1]), (.iload_n 1, 1, []), (.iaload, 1, []), (.iadd, 1, []), (.iload_n 2, 1, []), (.iload_n 3, 1, []), (.iload 4, 2, []), (.invokestatic 217, 3, [200, 3]), (.iastore, 1, []), (.aload_n 0, 1, []), (.getfield 43, 3, [12, 17, 1]), (.iload_n 1, 1, []), (.dup2, 1, []), (.iaload, 1, []), (.iconst 1, 1, []), (.iadd, 1, []), (.iastore, 1, []), (.aload_n 0, 1, []), (.getfield 71, 3, [12, 27, 1]), (.sipush 324, 3, []), (.iload_n 1, 1, []), (.imul, 1, []), (.iload_n 2, 1, []), (.iload_n 3, 1, []), (.iload 4, 2, []), (.invokestatic 217, 3, [200, 3]), (.iadd, 1, []), (.dup2, 1, []), (.iaload, 1, []), (.iconst 1, 1, []), (.ior, 1, []), (.iastore, 1, []), (.aload_n 0, 1, []), (.getfield 43, 3, [12, 17, 1]), (.iload_n 1, 1, []), (.iaload, 1, []), (.iconst 1, 1, []), (.isub, 1, []), (.ireturn, 1, [])])]
abbrev M_X12_pin : Md := (207, 12, 5, (some .int), P_X12_pin)
theorem ok_X12_pin : k_okM M_X12_pin := by unfold k_okM; decide +kernel
def P_X12_keep : CB := [(0, [(.aload_n 0, 1, []), (.iload_n 1, 1, []), (.iload_n 2, 1, []), (.iconst 0, 1, []), (.invokevirtual 214, 3, [199, 4, 12]), (.ifCond .eq 40, 3, [1]), (.aload_n 0, 1, []), (.iload_n 3, 1, []), (.iload 4, 2, []), (.iconst 0, 1, []), (.invokevirtual 214, 3, [199, 4, 12]), (.ifCond .eq 29, 3, [1]), (.iload_n 3, 1, []), (.iload_n 1, 1, []), (.if_icmp .lt 24, 3, [1]), (.iload 4, 2, []), (.iload_n 2, 1, []), (.if_icmp .lt 18, 3, [1]), (.iload 5, 2, []), (.ifCond .le 13, 3, [1]), (.iload 5, 2, []), (.aload_n 0, 1, []), (.getfield 142, 3, [12, 3, 0]), (.ishr, 1, []), (.ifCond .eq 5, 3, [2]), (.nop, 0, [1])]),
  (47, [(.iconst 0, 1, []), (.ireturn, 1, [])]),
  (49, [(.iconst 0, 1, []), (.istore 6, 2, []), (.nop, 0, [3])]),
  (52, [(.iload 6, 2, []), (.aload_n 0, 1, []), (.getfield 142, 3, [12, 3, 0]), (.if_icmp .ge 87, 3, [11]), (.iload_n 2, 1, []), (.istore 7, 2, []), (.nop, 0, [4])]),
  (64, [(.iload 7, 2, []), (.iload 4, 2, []), (.if_icmp .gt 71, 3, [10]), (.iload_n 1, 1, []), (.istore 8, 2, []), (.nop, 0, [5])]),
  (74, [(.iload 8, 2, []), (.iload_n 3, 1, []), (.if_icmp .gt 56, 3, [9]), (.aload_n 0, 1, []), (.getfield 67, 3, [12, 25, 1]), (.iload 8, 2, []), (.iload 7, 2, []), (.iload 6, 2, []), (.invokestatic 217, 3, [200, 3]), (.aload_n 0, 1, []), (.getfield 67, 3, [12, 25, 1]), (.iload 8, 2, []), (.iload 7, 2, []), (.iload 6, 2, []), (.invokestatic 217, 3, [200, 3]), (.baload, 1, []), (.ifCond .ne 14, 3, [6]), (.iload 5, 2, []), (.iload 6, 2, []), (.ishr, 1, []), (.iconst 1, 1, []), (.iand, 1, []), (.iconst 1, 1, []), (.if_icmp .ne 7, 3, [7]), (.nop, 0, [6])]),
  (121, [(.iconst 1, 1, []), (.goto 4, 3, [8])]),
  (125, [(.iconst 0, 1, []), (.nop, 0, [8])]),
  (126, [(.bastore, 1, []), (.iinc 8 1, 3, []), (.goto (-56), 3, [5])]),
  (133, [(.iinc 7 1, 3, []), (.goto (-72), 3, [4])]),
  (139, [(.iinc 6 1, 3, []), (.goto (-90), 3, [3])]),
  (145, [(.iconst 1, 1, []), (.ireturn, 1, [])])]
abbrev M_X12_keep : Md := (208, 12, 9, (some .boolean), P_X12_keep)
theorem ok_X12_keep : k_okM M_X12_keep := by unfold k_okM; decide +kernel
def P_X12_hasWire : CB := [(0, [(.iconst 0, 1, []), (.istore 4, 2, []), (.nop, 0, [1])]),
  (3, [(.iload 4, 2, []), (.aload_n 0, 1, []), (.getfield 49, 3, [12, 19, 1]), (.iload_n 1, 1, []), (.iaload, 1, []), (.if_icmp .ge 45, 3, [3]), (.aload_n 0, 1, []), (.getfield 52, 3, [12, 20, 1]), (.sipush 1200, 3, []), (.iload_n 1, 1, []), (.imul, 1, []), (.iload 4, 2, []), (.iadd, 1, []), (.iaload, 1, []), (.iload_n 2, 1, []), (.if_icmp .ne 22, 3, [2]), (.aload_n 0, 1, []), (.getfield 55, 3, [12, 21, 1]), (.sipush 1200, 3, []), (.iload_n 1, 1, []), (.imul, 1, []), (.iload 4, 2, []), (.iadd, 1, []), (.iaload, 1, []), (.iload_n 3, 1, []), (.if_icmp .ne 5, 3, [2]), (.iconst 1, 1, []), (.ireturn, 1, [])]),
  (50, [(.iinc 4 1, 3, []), (.goto (-50), 3, [1])]),
  (56, [(.iconst 0, 1, []), (.ireturn, 1, [])])]
abbrev M_X12_hasWire : Md := (209, 12, 5, (some .boolean), P_X12_hasWire)
theorem ok_X12_hasWire : k_okM M_X12_hasWire := by unfold k_okM; decide +kernel
def P_X12_addWire : CB := [(0, [(.iload_n 2, 1, []), (.iload_n 3, 1, []), (.invokestatic 3, 3, [1]), (.istore 4, 2, []), (.iload_n 2, 1, []), (.iload_n 3, 1, []), (.invokestatic 9, 3, [0]), (.istore 5, 2, []), (.aload_n 0, 1, []), (.iload_n 1, 1, []), (.iload 4, 2, []), (.iload 5, 2, []), (.invokevirtual 226, 3, [209, 4, 12]), (.ifCond .ne 51, 3, [1]), (.aload_n 0, 1, []), (.getfield 52, 3, [12, 20, 1]), (.sipush 1200, 3, []), (.iload_n 1, 1, []), (.imul, 1, []), (.aload_n 0, 1, []), (.getfield 49, 3, [12, 19, 1]), (.iload_n 1, 1, []), (.iaload, 1, []), (.iadd, 1, []), (.iload 4, 2, []), (.iastore, 1, []), (.aload_n 0, 1, []), (.getfield 55, 3, [12, 21, 1]), (.sipush 1200, 3, []), (.iload_n 1, 1, []), (.imul, 1, []), (.aload_n 0, 1, []), (.getfield 49, 3, [12, 19, 1]), (.iload_n 1, 1, []), (.iaload, 1, []), (.iadd, 1, []), (.iload 5, 2, []), (.iastore, 1, []), (.aload_n 0, 1, []), (.getfield 49, 3, [12, 19, 1]), (.iload_n 1, 1, []), (.dup2, 1, []), (.iaload, 1, []), (.iconst 1, 1, []), (.iadd, 1, []), (.iastore, 1, []), (.nop, 0, [1])]),
  (74, [(.aload_n 0, 1, []), (.getfield 71, 3, [12, 27, 1]), (.sipush 324, 3, []), (.iload_n 1, 1, []), (.imul, 1, []), (.iload_n 2, 1, []), (.iadd, 1, []), (.dup2, 1, []), (.iaload, 1, []), (.iconst 1, 1, []), (.ior, 1, []), (.iastore, 1, []), (.aload_n 0, 1, []), (.getfield 71, 3, [12, 27, 1]), (.sipush 324, 3, []), (.iload_n 1, 1, []), (.imul, 1, []), (.iload_n 3, 1, []), (.iadd, 1, []), (.dup2, 1, []), (.iaload, 1, []), (.iconst 1, 1, []), (.ior, 1, []), (.iastore, 1, []), (.return_, 1, [])])]
abbrev M_X12_addWire : Md := (210, 12, 6, none, P_X12_addWire)
theorem ok_X12_addWire : k_okM M_X12_addWire := by unfold k_okM; decide +kernel
def P_X12_wire : CB := [(0, [(.aload_n 0, 1, []), (.iload_n 1, 1, []), (.invokevirtual 220, 3, [198, 2, 12]), (.ifCond .eq 52, 3, [5]), (.aload_n 0, 1, []), (.iload_n 2, 1, []), (.iload_n 3, 1, []), (.iload 6, 2, []), (.invokevirtual 214, 3, [199, 4, 12]), (.ifCond .eq 41, 3, [5]), (.aload_n 0, 1, []), (.iload 4, 2, []), (.iload 5, 2, []), (.iload 6, 2, []), (.invokevirtual 214, 3, [199, 4, 12]), (.ifCond .eq 28, 3, [5]), (.iload_n 2, 1, []), (.iload 4, 2, []), (.if_icmp .ne 7, 3, [1]), (.iconst 1, 1, []), (.goto 4, 3, [2])]),
  (42, [(.iconst 0, 1, []), (.nop, 0, [2])]),
  (43, [(.iload_n 3, 1, []), (.iload 5, 2, []), (.if_icmp .ne 7, 3, [3]), (.iconst 1, 1, []), (.goto 4, 3, [4])]),
  (53, [(.iconst 0, 1, []), (.nop, 0, [4])]),
  (54, [(.if_icmp .ne 5, 3, [6]), (.nop, 0, [5])]),
  (57, [(.iconst 0, 1, []), (.ireturn, 1, [])]),
  (59, [(.iload 4, 2, []), (.iload_n 2, 1, []), (.if_icmp .le 7, 3, [7]), (.iconst 1, 1, []), (.goto 24, 3, [10])]),
  (69, [(.iload 4, 2, []), (.iload_n 2, 1, []), (.if_icmp .ge 7, 3, [8]), (.iconst 3, 1, []), (.goto 14, 3, [10])]),
  (79, [(.iload 5, 2, []), (.iload_n 3, 1, []), (.if_icmp .le 7, 3, [9]), (.iconst 2, 1, []), (.goto 4, 3, [10])]),
  (89, [(.iconst 0, 1, []), (.nop, 0, [10])]),
  (90, [(.istore 7, 2, []), (.iload_n 2, 1, []), (.iload_n 3, 1, []), (.iload 6, 2, []), (.invokestatic 217, 3, [200, 3]), (.istore 8, 2, []), (.nop, 0, [11])]),
  (101, [(.iload 8, 2, []), (.iload 4, 2, []), (.iload 5, 2, []), (.iload 6, 2, []), (.invokestatic 217, 3, [200, 3]), (.if_icmp .eq 29, 3, [12]), (.aload_n 0, 1, []), (.iload 8, 2, []), (.iload 7, 2, []), (.invokevirtual 229, 3, [204, 3, 12]), (.istore 9, 2, []), (.aload_n 0, 1, []), (.iload_n 1, 1, []), (.iload 8, 2, []), (.iload 9, 2, []), (.invokevirtual 232, 3, [210, 4, 12]), (.iload 9, 2, []), (.istore 8, 2, []), (.goto (-37), 3, [11])]),
  (141, [(.iconst 1, 1, []), (.ireturn, 1, [])])]
abbrev M_X12_wire : Md := (211, 12, 10, (some .boolean), P_X12_wire)
theorem ok_X12_wire : k_okM M_X12_wire := by unfold k_okM; decide +kernel
def P_X12_hole : CB := [(0, [(.aload_n 0, 1, []), (.iload_n 1, 1, []), (.invokevirtual 220, 3, [198, 2, 12]), (.ifCond .eq 27, 3, [1]), (.aload_n 0, 1, []), (.iload_n 2, 1, []), (.iload_n 3, 1, []), (.iload 4, 2, []), (.invokevirtual 214, 3, [199, 4, 12]), (.ifCond .eq 16, 3, [1]), (.aload_n 0, 1, []), (.iload_n 2, 1, []), (.iload_n 3, 1, []), (.iload 4, 2, []), (.iconst 1, 1, []), (.iadd, 1, []), (.invokevirtual 214, 3, [199, 4, 12]), (.ifCond .ne 5, 3, [2]), (.nop, 0, [1])]),
  (32, [(.iconst 0, 1, []), (.ireturn, 1, [])]),
  (34, [(.aload_n 0, 1, []), (.iload_n 1, 1, []), (.iload_n 2, 1, []), (.iload_n 3, 1, []), (.iload 4, 2, []), (.invokestatic 217, 3, [200, 3]), (.iload_n 2, 1, []), (.iload_n 3, 1, []), (.iload 4, 2, []), (.iconst 1, 1, []), (.iadd, 1, []), (.invokestatic 217, 3, [200, 3]), (.invokevirtual 232, 3, [210, 4, 12]), (.iconst 1, 1, []), (.ireturn, 1, [])])]
abbrev M_X12_hole : Md := (212, 12, 5, (some .boolean), P_X12_hole)
theorem ok_X12_hole : k_okM M_X12_hole := by unfold k_okM; decide +kernel
def P_X12_has : CB := [(0, [(.aload_n 0, 1, []), (.getfield 71, 3, [12, 27, 1]), (.sipush 324, 3, []), (.iload_n 1, 1, []), (.imul, 1, []), (.iload_n 2, 1, []), (.iadd, 1, []), (.iaload, 1, []), (.ifCond .eq 7, 3, [1]), (.iconst 1, 1, []), (.goto 4, 3, [2])]),
  (19, [(.iconst 0, 1, []), (.nop, 0, [2])]),
  (20, [(.ireturn, 1, [])])]
abbrev M_X12_has : Md := (213, 12, 3, (some .boolean), P_X12_has)
theorem ok_X12_has : k_okM M_X12_has := by unfold k_okM; decide +kernel
def P_X12_copper : CB := [(0, [(.aload_n 0, 1, []), (.iload_n 1, 1, []), (.iload_n 2, 1, []), (.iload_n 3, 1, []), (.invokevirtual 214, 3, [199, 4, 12]), (.ifCond .ne 5, 3, [1]), (.iconst (-1), 1, []), (.ireturn, 1, [])]),
  (12, [(.iconst 0, 1, []), (.istore 4, 2, []), (.iconst 0, 1, []), (.istore 5, 2, []), (.nop, 0, [2])]),
  (18, [(.iload 5, 2, []), (.aload_n 0, 1, []), (.getfield 202, 3, [12, 26, 0]), (.if_icmp .ge 37, 3, [5]), (.iload 4, 2, []), (.aload_n 0, 1, []), (.iload 5, 2, []), (.iload_n 1, 1, []), (.iload_n 2, 1, []), (.iload_n 3, 1, []), (.invokestatic 217, 3, [200, 3]), (.invokevirtual 236, 3, [213, 3, 12]), (.ifCond .eq 10, 3, [3]), (.iconst 1, 1, []), (.iload 5, 2, []), (.ishl, 1, []), (.goto 4, 3, [4])]),
  (51, [(.iconst 0, 1, []), (.nop, 0, [4])]),
  (52, [(.ior, 1, []), (.istore 4, 2, []), (.iinc 5 1, 3, []), (.goto (-40), 3, [2])]),
  (61, [(.iload 4, 2, []), (.ireturn, 1, [])])]
abbrev M_X12_copper : Md := (214, 12, 6, (some .int), P_X12_copper)
theorem ok_X12_copper : k_okM M_X12_copper := by unfold k_okM; decide +kernel
def P_X12_counts : CB := [(0, [(.aload_n 0, 1, []), (.getfield 240, 3, [12, 28, 0]), (.iload_n 1, 1, []), (.ishr, 1, []), (.iconst 1, 1, []), (.iand, 1, []), (.ifCond .ne 22, 3, [2]), (.aload_n 0, 1, []), (.getfield 243, 3, [12, 30, 2]), (.ifCond .eq 11, 3, [1]), (.iload_n 1, 1, []), (.aload_n 0, 1, []), (.getfield 247, 3, [12, 29, 0]), (.if_icmp .ne 7, 3, [2]), (.nop, 0, [1])]),
  (26, [(.iconst 1, 1, []), (.goto 4, 3, [3])]),
  (30, [(.iconst 0, 1, []), (.nop, 0, [3])]),
  (31, [(.istore_n 3, 1, []), (.aload_n 0, 1, []), (.getfield 71, 3, [12, 27, 1]), (.sipush 324, 3, []), (.iload_n 1, 1, []), (.imul, 1, []), (.iload_n 2, 1, []), (.iadd, 1, []), (.iaload, 1, []), (.iload_n 3, 1, []), (.ifCond .eq 8, 3, [4]), (.bipush 7, 2, []), (.goto 4, 3, [5])]),
  (53, [(.iconst 5, 1, []), (.nop, 0, [5])]),
  (54, [(.iand, 1, []), (.ifCond .eq 7, 3, [6]), (.iconst 1, 1, []), (.goto 4, 3, [7])]),
  (62, [(.iconst 0, 1, []), (.nop, 0, [7])]),
  (63, [(.ireturn, 1, [])])]
abbrev M_X12_counts : Md := (215, 12, 4, (some .boolean), P_X12_counts)
theorem ok_X12_counts : k_okM M_X12_counts := by unfold k_okM; decide +kernel
def P_X12_apart : CB := [(0, [(.aload_n 0, 1, []), (.getfield 31, 3, [12, 11, 1]), (.aload_n 0, 1, []), (.getfield 37, 3, [12, 15, 1]), (.iload_n 1, 1, []), (.iaload, 1, []), (.iaload, 1, []), (.aload_n 0, 1, []), (.getfield 31, 3, [12, 11, 1]), (.aload_n 0, 1, []), (.getfield 37, 3, [12, 15, 1]), (.iload_n 2, 1, []), (.iaload, 1, []), (.iaload, 1, []), (.invokestatic 9, 3, [0]), (.ireturn, 1, [])])]
abbrev M_X12_apart : Md := (216, 12, 3, (some .int), P_X12_apart)
theorem ok_X12_apart : k_okM M_X12_apart := by unfold k_okM; decide +kernel
def P_X12_isNear : CB := [(0, [(.iconst 0, 1, []), (.iload_n 2, 1, []), (.invokestatic 208, 3, [202, 1]), (.iload_n 3, 1, []), (.isub, 1, []), (.invokestatic 9, 3, [0]), (.istore 4, 2, []), (.nop, 0, [1])]),
  (12, [(.iload 4, 2, []), (.aload_n 0, 1, []), (.getfield 139, 3, [12, 2, 0]), (.iconst 1, 1, []), (.isub, 1, []), (.iload_n 2, 1, []), (.invokestatic 208, 3, [202, 1]), (.iload_n 3, 1, []), (.iadd, 1, []), (.invokestatic 3, 3, [1]), (.if_icmp .gt 68, 3, [5]), (.iconst 0, 1, []), (.iload_n 2, 1, []), (.invokestatic 205, 3, [201, 1]), (.iload_n 3, 1, []), (.isub, 1, []), (.invokestatic 9, 3, [0]), (.istore 5, 2, []), (.nop, 0, [2])]),
  (44, [(.iload 5, 2, []), (.aload_n 0, 1, []), (.getfield 135, 3, [12, 1, 0]), (.iconst 1, 1, []), (.isub, 1, []), (.iload_n 2, 1, []), (.invokestatic 205, 3, [201, 1]), (.iload_n 3, 1, []), (.iadd, 1, []), (.invokestatic 3, 3, [1]), (.if_icmp .gt 30, 3, [4]), (.aload_n 0, 1, []), (.iload_n 1, 1, []), (.iload 5, 2, []), (.iload 4, 2, []), (.iload_n 2, 1, []), (.invokestatic 211, 3, [203, 1]), (.invokestatic 217, 3, [200, 3]), (.invokevirtual 250, 3, [215, 3, 12]), (.ifCond .eq 5, 3, [3]), (.iconst 1, 1, []), (.ireturn, 1, [])]),
  (85, [(.iinc 5 1, 3, []), (.goto (-44), 3, [2])]),
  (91, [(.iinc 4 1, 3, []), (.goto (-82), 3, [1])]),
  (97, [(.iconst 0, 1, []), (.ireturn, 1, [])])]
abbrev M_X12_isNear : Md := (217, 12, 6, (some .boolean), P_X12_isNear)
theorem ok_X12_isNear : k_okM M_X12_isNear := by unfold k_okM; decide +kernel
def P_X12_isFree : CB := [(0, [(.aload_n 0, 1, []), (.iload_n 1, 1, []), (.iload_n 2, 1, []), (.invokevirtual 250, 3, [215, 3, 12]), (.ifCond .eq 5, 3, [1]), (.iconst 1, 1, []), (.ireturn, 1, [])]),
  (11, [(.aload_n 0, 1, []), (.getfield 67, 3, [12, 25, 1]), (.iload_n 2, 1, []), (.baload, 1, []), (.ifCond .ne 28, 3, [2]), (.iload_n 3, 1, []), (.ifCond .ne 26, 3, [3]), (.aload_n 0, 1, []), (.getfield 34, 3, [12, 12, 1]), (.aload_n 0, 1, []), (.getfield 37, 3, [12, 15, 1]), (.iload_n 1, 1, []), (.iaload, 1, []), (.iaload, 1, []), (.iload_n 2, 1, []), (.invokestatic 211, 3, [203, 1]), (.ishr, 1, []), (.iconst 1, 1, []), (.iand, 1, []), (.ifCond .ne 5, 3, [3]), (.nop, 0, [2])]),
  (45, [(.iconst 0, 1, []), (.ireturn, 1, [])]),
  (47, [(.iconst 0, 1, []), (.istore 4, 2, []), (.nop, 0, [4])]),
  (50, [(.iload 4, 2, []), (.aload_n 0, 1, []), (.getfield 202, 3, [12, 26, 0]), (.if_icmp .ge 34, 3, [6]), (.iload 4, 2, []), (.iload_n 1, 1, []), (.if_icmp .eq 22, 3, [5]), (.aload_n 0, 1, []), (.iload 4, 2, []), (.iload_n 2, 1, []), (.aload_n 0, 1, []), (.iload_n 1, 1, []), (.iload 4, 2, []), (.invokevirtual 253, 3, [216, 3, 12]), (.invokevirtual 256, 3, [217, 4, 12]), (.ifCond .eq 5, 3, [5]), (.iconst 0, 1, []), (.ireturn, 1, [])]),
  (84, [(.iinc 4 1, 3, []), (.goto (-37), 3, [4])]),
  (90, [(.iconst 1, 1, []), (.ireturn, 1, [])])]
abbrev M_X12_isFree : Md := (218, 12, 5, (some .boolean), P_X12_isFree)
theorem ok_X12_isFree : k_okM M_X12_isFree := by unfold k_okM; decide +kernel
def P_X12_free : CB := [(0, [(.aload_n 0, 1, []), (.iload_n 1, 1, []), (.invokevirtual 220, 3, [198, 2, 12]), (.ifCond .eq 38, 3, [2]), (.aload_n 0, 1, []), (.iload_n 2, 1, []), (.iload_n 3, 1, []), (.iload 4, 2, []), (.invokevirtual 214, 3, [199, 4, 12]), (.ifCond .eq 27, 3, [2]), (.aload_n 0, 1, []), (.iload_n 1, 1, []), (.iload_n 2, 1, []), (.iload_n 3, 1, []), (.iload 4, 2, []), (.invokestatic 217, 3, [200, 3]), (.iconst 0, 1, []), (.invokevirtual 259, 3, [218, 4, 12]), (.ifCond .eq 7, 3, [1]), (.iconst 1, 1, []), (.goto 8, 3, [3])]),
  (39, [(.iconst 0, 1, []), (.goto 4, 3, [3])]),
  (43, [(.iconst (-1), 1, []), (.nop, 0, [3])]),
  (44, [(.ireturn, 1, [])])]
abbrev M_X12_free : Md := (219, 12, 5, (some .int), P_X12_free)
theorem ok_X12_free : k_okM M_X12_free := by unfold k_okM; decide +kernel
