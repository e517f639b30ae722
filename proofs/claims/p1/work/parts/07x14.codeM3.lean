/-! code as data (written by wip/whole/gencode.py) -/
def P_X12_weigh : CB := [(0, [(.iconst 0, 1, []), (.istore_n 2, 1, []), (.nop, 0, [1])]),
  (2, [(.iload_n 2, 1, []), (.sipush 324, 3, []), (.if_icmp .ge 97, 3, [8]), (.aload_n 0, 1, []), (.iload_n 2, 1, []), (.invokestatic 205, 3, [201, 1]), (.iload_n 2, 1, []), (.invokestatic 208, 3, [202, 1]), (.iload_n 2, 1, []), (.invokestatic 211, 3, [203, 1]), (.invokevirtual 214, 3, [199, 4, 12]), (.istore_n 3, 1, []), (.aload_n 0, 1, []), (.getfield 95, 3, [12, 39, 1]), (.iload_n 2, 1, []), (.iload_n 3, 1, []), (.ifCond .eq 17, 3, [2]), (.aload_n 0, 1, []), (.iload_n 1, 1, []), (.iload_n 2, 1, []), (.iconst 0, 1, []), (.invokevirtual 259, 3, [218, 4, 12]), (.ifCond .eq 7, 3, [2]), (.iconst 1, 1, []), (.goto 4, 3, [3])]),
  (49, [(.iconst 0, 1, []), (.nop, 0, [3])]),
  (50, [(.bastore, 1, []), (.iconst 0, 1, []), (.istore 4, 2, []), (.nop, 0, [4])]),
  (54, [(.iload 4, 2, []), (.iconst 5, 1, []), (.if_icmp .ge 40, 3, [7]), (.aload_n 0, 1, []), (.getfield 92, 3, [12, 38, 1]), (.iconst 5, 1, []), (.iload_n 2, 1, []), (.imul, 1, []), (.iload 4, 2, []), (.iadd, 1, []), (.iload_n 3, 1, []), (.ifCond .eq 16, 3, [5]), (.aload_n 0, 1, []), (.getfield 89, 3, [12, 37, 1]), (.iload_n 2, 1, []), (.baload, 1, []), (.ifCond .eq 7, 3, [5]), (.iconst 0, 1, []), (.goto 6, 3, [6])]),
  (87, [(.ldc_w 272, 3, [1000000000]), (.nop, 0, [6])]),
  (90, [(.iastore, 1, []), (.iinc 4 1, 3, []), (.goto (-40), 3, [4])]),
  (97, [(.iinc 2 1, 3, []), (.goto (-98), 3, [1])]),
  (103, [(.iconst 1, 1, []), (.istore_n 2, 1, []), (.nop, 0, [9])]),
  (105, [(.iload_n 2, 1, []), (.ifCond .eq 75, 3, [20]), (.iconst 0, 1, []), (.istore_n 2, 1, []), (.iconst 0, 1, []), (.istore_n 3, 1, []), (.nop, 0, [10])]),
  (113, [(.iload_n 3, 1, []), (.sipush 324, 3, []), (.if_icmp .ge 28, 3, [14]), (.aload_n 0, 1, []), (.iload_n 1, 1, []), (.iload_n 3, 1, []), (.invokevirtual 283, 3, [231, 3, 12]), (.ifCond .ne 7, 3, [11]), (.iload_n 2, 1, []), (.ifCond .eq 7, 3, [12]), (.nop, 0, [11])]),
  (133, [(.iconst 1, 1, []), (.goto 4, 3, [13])]),
  (137, [(.iconst 0, 1, []), (.nop, 0, [13])]),
  (138, [(.istore_n 2, 1, []), (.iinc 3 1, 3, []), (.goto (-29), 3, [10])]),
  (145, [(.sipush 323, 3, []), (.istore_n 3, 1, []), (.nop, 0, [15])]),
  (149, [(.iload_n 3, 1, []), (.ifCond .lt 28, 3, [19]), (.aload_n 0, 1, []), (.iload_n 1, 1, []), (.iload_n 3, 1, []), (.invokevirtual 283, 3, [231, 3, 12]), (.ifCond .ne 7, 3, [16]), (.iload_n 2, 1, []), (.ifCond .eq 7, 3, [17]), (.nop, 0, [16])]),
  (166, [(.iconst 1, 1, []), (.goto 4, 3, [18])]),
  (170, [(.iconst 0, 1, []), (.nop, 0, [18])]),
  (171, [(.istore_n 2, 1, []), (.iinc 3 (-1), 3, []), (.goto (-26), 3, [15])]),
  (178, [(.goto (-73), 3, [9])]),
  (181, [(.return_, 1, [])])]
abbrev M_X12_weigh : Md := (232, 12, 5, none, P_X12_weigh)
theorem ok_X12_weigh : k_okM M_X12_weigh := by unfold k_okM; decide +kernel
def P_X12_leads : CB := [(0, [(.aload_n 0, 1, []), (.iload_n 2, 1, []), (.iload 4, 2, []), (.invokevirtual 229, 3, [204, 3, 12]), (.istore 5, 2, []), (.iload 5, 2, []), (.iconst (-1), 1, []), (.if_icmp .eq 13, 3, [1]), (.aload_n 0, 1, []), (.getfield 95, 3, [12, 39, 1]), (.iload 5, 2, []), (.baload, 1, []), (.ifCond .ne 5, 3, [2]), (.nop, 0, [1])]),
  (25, [(.iconst 0, 1, []), (.ireturn, 1, [])]),
  (27, [(.aload_n 0, 1, []), (.getfield 92, 3, [12, 38, 1]), (.iconst 5, 1, []), (.iload 5, 2, []), (.imul, 1, []), (.iload 4, 2, []), (.iconst 4, 1, []), (.if_icmp .ge 8, 3, [3]), (.iload 4, 2, []), (.goto 4, 3, [4])]),
  (46, [(.iload_n 3, 1, []), (.nop, 0, [4])]),
  (47, [(.iadd, 1, []), (.iaload, 1, []), (.istore 6, 2, []), (.iload 6, 2, []), (.ldc_w 272, 3, [1000000000]), (.if_icmp .ge 33, 3, [5]), (.aload_n 0, 1, []), (.iload_n 1, 1, []), (.iload 4, 2, []), (.iload_n 3, 1, []), (.iload 5, 2, []), (.invokevirtual 276, 3, [229, 5, 12]), (.iload 6, 2, []), (.iadd, 1, []), (.aload_n 0, 1, []), (.getfield 92, 3, [12, 38, 1]), (.iconst 5, 1, []), (.iload_n 2, 1, []), (.imul, 1, []), (.iload_n 3, 1, []), (.iadd, 1, []), (.iaload, 1, []), (.if_icmp .ne 7, 3, [5]), (.iconst 1, 1, []), (.goto 4, 3, [6])]),
  (89, [(.iconst 0, 1, []), (.nop, 0, [6])]),
  (90, [(.ireturn, 1, [])])]
abbrev M_X12_leads : Md := (233, 12, 7, (some .boolean), P_X12_leads)
theorem ok_X12_leads : k_okM M_X12_leads := by unfold k_okM; decide +kernel
def P_X12_go : CB := [(0, [(.aload_n 0, 1, []), (.iload_n 1, 1, []), (.invokevirtual 286, 3, [232, 2, 12]), (.aload_n 0, 1, []), (.getfield 92, 3, [12, 38, 1]), (.iconst 5, 1, []), (.iload_n 2, 1, []), (.imul, 1, []), (.iconst 4, 1, []), (.iadd, 1, []), (.iaload, 1, []), (.ldc_w 272, 3, [1000000000]), (.if_icmp .ne 5, 3, [1]), (.iconst (-1), 1, []), (.ireturn, 1, [])]),
  (23, [(.aload_n 0, 1, []), (.getfield 92, 3, [12, 38, 1]), (.iconst 5, 1, []), (.iload_n 2, 1, []), (.imul, 1, []), (.iconst 4, 1, []), (.iadd, 1, []), (.iaload, 1, []), (.sipush 1000, 3, []), (.idiv, 1, []), (.istore_n 3, 1, []), (.iload_n 2, 1, []), (.istore 4, 2, []), (.iconst 4, 1, []), (.istore 5, 2, []), (.nop, 0, [2])]),
  (44, [(.aload_n 0, 1, []), (.getfield 89, 3, [12, 37, 1]), (.iload 4, 2, []), (.baload, 1, []), (.ifCond .ne 67, 3, [7]), (.iconst 0, 1, []), (.istore 6, 2, []), (.nop, 0, [3])]),
  (57, [(.aload_n 0, 1, []), (.iload_n 1, 1, []), (.iload 4, 2, []), (.iload 5, 2, []), (.iload 6, 2, []), (.invokevirtual 289, 3, [233, 5, 12]), (.ifCond .ne 9, 3, [4]), (.iinc 6 1, 3, []), (.goto (-17), 3, [3])]),
  (77, [(.aload_n 0, 1, []), (.iload 4, 2, []), (.iload 6, 2, []), (.invokevirtual 229, 3, [204, 3, 12]), (.istore 7, 2, []), (.aload_n 0, 1, []), (.iload_n 1, 1, []), (.iload 4, 2, []), (.iload 7, 2, []), (.invokevirtual 293, 3, [223, 4, 12]), (.iload 7, 2, []), (.istore 4, 2, []), (.iload 6, 2, []), (.iconst 4, 1, []), (.if_icmp .ge 8, 3, [5]), (.iload 6, 2, []), (.goto 5, 3, [6])]),
  (111, [(.iload 5, 2, []), (.nop, 0, [6])]),
  (113, [(.istore 5, 2, []), (.goto (-71), 3, [2])]),
  (118, [(.iload_n 3, 1, []), (.ireturn, 1, [])])]
abbrev M_X12_go : Md := (234, 12, 8, (some .int), P_X12_go)
theorem ok_X12_go : k_okM M_X12_go := by unfold k_okM; decide +kernel
def P_X12_layNet : CB := [(0, [(.aload_n 0, 1, []), (.getfield 43, 3, [12, 17, 1]), (.iload_n 1, 1, []), (.iaload, 1, []), (.ifCond .ne 5, 3, [1]), (.iconst (-1), 1, []), (.ireturn, 1, [])]),
  (11, [(.aload_n 0, 1, []), (.iload_n 1, 1, []), (.invokevirtual 296, 3, [221, 2, 12]), (.iconst 0, 1, []), (.istore_n 2, 1, []), (.iconst 1, 1, []), (.istore_n 3, 1, []), (.nop, 0, [2])]),
  (20, [(.iload_n 3, 1, []), (.aload_n 0, 1, []), (.getfield 43, 3, [12, 17, 1]), (.iload_n 1, 1, []), (.iaload, 1, []), (.if_icmp .ge 78, 3, [6]), (.aload_n 0, 1, []), (.iload_n 1, 1, []), (.aload_n 0, 1, []), (.getfield 46, 3, [12, 18, 1]), (.iconst 4, 1, []), (.iload_n 1, 1, []), (.imul, 1, []), (.iaload, 1, []), (.invokevirtual 299, 3, [228, 3, 12]), (.aload_n 0, 1, []), (.getfield 89, 3, [12, 37, 1]), (.aload_n 0, 1, []), (.getfield 46, 3, [12, 18, 1]), (.iconst 4, 1, []), (.iload_n 1, 1, []), (.imul, 1, []), (.iload_n 3, 1, []), (.iadd, 1, []), (.iaload, 1, []), (.baload, 1, []), (.ifCond .eq 6, 3, [3]), (.goto 38, 3, [5])]),
  (64, [(.aload_n 0, 1, []), (.iload_n 1, 1, []), (.aload_n 0, 1, []), (.getfield 46, 3, [12, 18, 1]), (.iconst 4, 1, []), (.iload_n 1, 1, []), (.imul, 1, []), (.iload_n 3, 1, []), (.iadd, 1, []), (.iaload, 1, []), (.invokevirtual 303, 3, [234, 3, 12]), (.istore 4, 2, []), (.iload 4, 2, []), (.iconst (-1), 1, []), (.if_icmp .ne 10, 3, [4]), (.aload_n 0, 1, []), (.iload_n 1, 1, []), (.invokevirtual 306, 3, [222, 2, 12]), (.iconst (-1), 1, []), (.ireturn, 1, [])]),
  (94, [(.iload_n 2, 1, []), (.iload 4, 2, []), (.iadd, 1, []), (.istore_n 2, 1, []), (.nop, 0, [5])]),
  (99, [(.iinc 3 1, 3, []), (.goto (-82), 3, [2])]),
  (105, [(.iload_n 2, 1, []), (.ireturn, 1, [])])]
abbrev M_X12_layNet : Md := (235, 12, 5, (some .int), P_X12_layNet)
theorem ok_X12_layNet : k_okM M_X12_layNet := by unfold k_okM; decide +kernel
def P_X12_plainly : CB := [(0, [(.aload_n 0, 1, []), (.iload_n 1, 1, []), (.putfield 273, 3, [12, 41, 2]), (.aload_n 0, 1, []), (.iconst 0, 1, []), (.putfield 240, 3, [12, 28, 0]), (.aload_n 0, 1, []), (.iconst 0, 1, []), (.putfield 243, 3, [12, 30, 2]), (.iconst 0, 1, []), (.istore_n 2, 1, []), (.nop, 0, [1])]),
  (17, [(.iload_n 2, 1, []), (.sipush 324, 3, []), (.if_icmp .ge 16, 3, [2]), (.aload_n 0, 1, []), (.getfield 98, 3, [12, 40, 1]), (.iload_n 2, 1, []), (.iconst 0, 1, []), (.iastore, 1, []), (.iinc 2 1, 3, []), (.goto (-17), 3, [1])]),
  (37, [(.return_, 1, [])])]
abbrev M_X12_plainly : Md := (236, 12, 3, none, P_X12_plainly)
theorem ok_X12_plainly : k_okM M_X12_plainly := by unfold k_okM; decide +kernel
def P_X12_lay : CB := [(0, [(.aload_n 0, 1, []), (.iload_n 1, 1, []), (.invokevirtual 220, 3, [198, 2, 12]), (.ifCond .ne 5, 3, [1]), (.iconst (-1), 1, []), (.ireturn, 1, [])]),
  (10, [(.aload_n 0, 1, []), (.iconst 1, 1, []), (.invokevirtual 309, 3, [236, 2, 12]), (.aload_n 0, 1, []), (.iload_n 1, 1, []), (.invokevirtual 313, 3, [235, 2, 12]), (.ireturn, 1, [])])]
abbrev M_X12_lay : Md := (237, 12, 2, (some .int), P_X12_lay)
theorem ok_X12_lay : k_okM M_X12_lay := by unfold k_okM; decide +kernel
def P_X12_tried : CB := [(0, [(.aload_n 0, 1, []), (.iload_n 1, 1, []), (.invokevirtual 313, 3, [235, 2, 12]), (.istore_n 2, 1, []), (.iload_n 2, 1, []), (.iconst (-1), 1, []), (.if_icmp .eq 8, 3, [1]), (.aload_n 0, 1, []), (.iload_n 1, 1, []), (.invokevirtual 306, 3, [222, 2, 12]), (.nop, 0, [1])]),
  (16, [(.iload_n 2, 1, []), (.ireturn, 1, [])])]
abbrev M_X12_tried : Md := (238, 12, 3, (some .int), P_X12_tried)
theorem ok_X12_tried : k_okM M_X12_tried := by unfold k_okM; decide +kernel
def P_X12_cost : CB := [(0, [(.aload_n 0, 1, []), (.iload_n 1, 1, []), (.invokevirtual 220, 3, [198, 2, 12]), (.ifCond .ne 5, 3, [1]), (.iconst (-1), 1, []), (.ireturn, 1, [])]),
  (10, [(.aload_n 0, 1, []), (.iload_n 2, 1, []), (.invokevirtual 309, 3, [236, 2, 12]), (.aload_n 0, 1, []), (.iload_n 1, 1, []), (.invokevirtual 316, 3, [238, 2, 12]), (.istore_n 3, 1, []), (.aload_n 0, 1, []), (.iconst 1, 1, []), (.invokevirtual 309, 3, [236, 2, 12]), (.iload_n 3, 1, []), (.ireturn, 1, [])])]
abbrev M_X12_cost : Md := (239, 12, 4, (some .int), P_X12_cost)
theorem ok_X12_cost : k_okM M_X12_cost := by unfold k_okM; decide +kernel
def P_X12_rip : CB := [(0, [(.aload_n 0, 1, []), (.iload_n 1, 1, []), (.invokevirtual 220, 3, [198, 2, 12]), (.ifCond .eq 12, 3, [1]), (.aload_n 0, 1, []), (.getfield 58, 3, [12, 22, 1]), (.iload_n 1, 1, []), (.iaload, 1, []), (.ifCond .ne 5, 3, [2]), (.nop, 0, [1])]),
  (17, [(.iconst 0, 1, []), (.ireturn, 1, [])]),
  (19, [(.aload_n 0, 1, []), (.getfield 58, 3, [12, 22, 1]), (.iload_n 1, 1, []), (.iconst 0, 1, []), (.iastore, 1, []), (.aload_n 0, 1, []), (.iload_n 1, 1, []), (.invokevirtual 266, 3, [220, 2, 12]), (.iconst 1, 1, []), (.ireturn, 1, [])])]
abbrev M_X12_rip : Md := (240, 12, 2, (some .boolean), P_X12_rip)
theorem ok_X12_rip : k_okM M_X12_rip := by unfold k_okM; decide +kernel
def P_X12_rank : CB := [(0, [(.aload_n 0, 1, []), (.iload_n 1, 1, []), (.invokevirtual 220, 3, [198, 2, 12]), (.ifCond .eq 13, 3, [1]), (.iload_n 2, 1, []), (.iconst 0, 1, []), (.bipush 99, 2, []), (.invokestatic 175, 3, [179, 3]), (.ifCond .ne 5, 3, [2]), (.nop, 0, [1])]),
  (18, [(.iconst 0, 1, []), (.ireturn, 1, [])]),
  (20, [(.aload_n 0, 1, []), (.getfield 40, 3, [12, 16, 1]), (.iload_n 1, 1, []), (.iload_n 2, 1, []), (.iastore, 1, []), (.iconst 1, 1, []), (.ireturn, 1, [])])]
abbrev M_X12_rank : Md := (241, 12, 3, (some .boolean), P_X12_rank)
theorem ok_X12_rank : k_okM M_X12_rank := by unfold k_okM; decide +kernel
def P_X12_order : CB := [(0, [(.aload_n 0, 1, []), (.iconst 1, 1, []), (.invokevirtual 309, 3, [236, 2, 12]), (.aload_n 0, 1, []), (.invokevirtual 319, 3, [225, 1, 12]), (.iconst 0, 1, []), (.istore_n 1, 1, []), (.iconst 0, 1, []), (.istore_n 2, 1, []), (.nop, 0, [1])]),
  (13, [(.iload_n 2, 1, []), (.bipush 100, 2, []), (.if_icmp .ge 63, 3, [6]), (.iconst 0, 1, []), (.istore_n 3, 1, []), (.nop, 0, [2])]),
  (21, [(.iload_n 3, 1, []), (.aload_n 0, 1, []), (.getfield 202, 3, [12, 26, 0]), (.if_icmp .ge 47, 3, [5]), (.iload_n 1, 1, []), (.aload_n 0, 1, []), (.getfield 40, 3, [12, 16, 1]), (.iload_n 3, 1, []), (.iaload, 1, []), (.iload_n 2, 1, []), (.if_icmp .ne 27, 3, [3]), (.aload_n 0, 1, []), (.getfield 43, 3, [12, 17, 1]), (.iload_n 3, 1, []), (.iaload, 1, []), (.ifCond .le 18, 3, [3]), (.aload_n 0, 1, []), (.iload_n 3, 1, []), (.invokevirtual 313, 3, [235, 2, 12]), (.iconst (-1), 1, []), (.if_icmp .ne 9, 3, [3]), (.iconst 1, 1, []), (.iload_n 3, 1, []), (.ishl, 1, []), (.goto 4, 3, [4])]),
  (64, [(.iconst 0, 1, []), (.nop, 0, [4])]),
  (65, [(.ior, 1, []), (.istore_n 1, 1, []), (.iinc 3 1, 3, []), (.goto (-49), 3, [2])]),
  (73, [(.iinc 2 1, 3, []), (.goto (-63), 3, [1])]),
  (79, [(.iload_n 1, 1, []), (.ireturn, 1, [])])]
abbrev M_X12_order : Md := (242, 12, 4, (some .int), P_X12_order)
theorem ok_X12_order : k_okM M_X12_order := by unfold k_okM; decide +kernel
def P_X12_hasTrace : CB := [(0, [(.aload_n 0, 1, []), (.getfield 71, 3, [12, 27, 1]), (.sipush 324, 3, []), (.iload_n 1, 1, []), (.imul, 1, []), (.iload_n 2, 1, []), (.iadd, 1, []), (.iaload, 1, []), (.iconst 2, 1, []), (.iand, 1, []), (.ifCond .eq 7, 3, [1]), (.iconst 1, 1, []), (.goto 4, 3, [2])]),
  (21, [(.iconst 0, 1, []), (.nop, 0, [2])]),
  (22, [(.ireturn, 1, [])])]
abbrev M_X12_hasTrace : Md := (243, 12, 3, (some .boolean), P_X12_hasTrace)
theorem ok_X12_hasTrace : k_okM M_X12_hasTrace := by unfold k_okM; decide +kernel
def P_X12_isTraceNear : CB := [(0, [(.iconst 0, 1, []), (.iload_n 2, 1, []), (.invokestatic 208, 3, [202, 1]), (.iload_n 3, 1, []), (.isub, 1, []), (.invokestatic 9, 3, [0]), (.istore 4, 2, []), (.nop, 0, [1])]),
  (12, [(.iload 4, 2, []), (.aload_n 0, 1, []), (.getfield 139, 3, [12, 2, 0]), (.iconst 1, 1, []), (.isub, 1, []), (.iload_n 2, 1, []), (.invokestatic 208, 3, [202, 1]), (.iload_n 3, 1, []), (.iadd, 1, []), (.invokestatic 3, 3, [1]), (.if_icmp .gt 68, 3, [5]), (.iconst 0, 1, []), (.iload_n 2, 1, []), (.invokestatic 205, 3, [201, 1]), (.iload_n 3, 1, []), (.isub, 1, []), (.invokestatic 9, 3, [0]), (.istore 5, 2, []), (.nop, 0, [2])]),
  (44, [(.iload 5, 2, []), (.aload_n 0, 1, []), (.getfield 135, 3, [12, 1, 0]), (.iconst 1, 1, []), (.isub, 1, []), (.iload_n 2, 1, []), (.invokestatic 205, 3, [201, 1]), (.iload_n 3, 1, []), (.iadd, 1, []), (.invokestatic 3, 3, [1]), (.if_icmp .gt 30, 3, [4]), (.aload_n 0, 1, []), (.iload_n 1, 1, []), (.iload 5, 2, []), (.iload 4, 2, []), (.iload_n 2, 1, []), (.invokestatic 211, 3, [203, 1]), (.invokestatic 217, 3, [200, 3]), (.invokevirtual 322, 3, [243, 3, 12]), (.ifCond .eq 5, 3, [3]), (.iconst 1, 1, []), (.ireturn, 1, [])]),
  (85, [(.iinc 5 1, 3, []), (.goto (-44), 3, [2])]),
  (91, [(.iinc 4 1, 3, []), (.goto (-82), 3, [1])]),
  (97, [(.iconst 0, 1, []), (.ireturn, 1, [])])]
abbrev M_X12_isTraceNear : Md := (244, 12, 6, (some .boolean), P_X12_isTraceNear)
theorem ok_X12_isTraceNear : k_okM M_X12_isTraceNear := by unfold k_okM; decide +kernel
def P_X12_tracesNear : CB := [(0, [(.iconst 0, 1, []), (.istore_n 3, 1, []), (.iconst 0, 1, []), (.istore 4, 2, []), (.nop, 0, [1])]),
  (5, [(.iload 4, 2, []), (.aload_n 0, 1, []), (.getfield 202, 3, [12, 26, 0]), (.if_icmp .ge 40, 3, [4]), (.iload_n 3, 1, []), (.iload 4, 2, []), (.iload_n 1, 1, []), (.if_icmp .eq 24, 3, [2]), (.aload_n 0, 1, []), (.iload 4, 2, []), (.iload_n 2, 1, []), (.aload_n 0, 1, []), (.iload_n 1, 1, []), (.iload 4, 2, []), (.invokevirtual 253, 3, [216, 3, 12]), (.invokevirtual 325, 3, [244, 4, 12]), (.ifCond .eq 7, 3, [2]), (.iconst 1, 1, []), (.goto 4, 3, [3])]),
  (42, [(.iconst 0, 1, []), (.nop, 0, [3])]),
  (43, [(.iadd, 1, []), (.istore_n 3, 1, []), (.iinc 4 1, 3, []), (.goto (-43), 3, [1])]),
  (51, [(.iload_n 3, 1, []), (.ireturn, 1, [])])]
abbrev M_X12_tracesNear : Md := (245, 12, 5, (some .int), P_X12_tracesNear)
theorem ok_X12_tracesNear : k_okM M_X12_tracesNear := by unfold k_okM; decide +kernel
def P_X12_isInside : CB := [(0, [(.aload_n 0, 1, []), (.iload_n 1, 1, []), (.invokestatic 205, 3, [201, 1]), (.iload_n 1, 1, []), (.invokestatic 208, 3, [202, 1]), (.iload_n 1, 1, []), (.invokestatic 211, 3, [203, 1]), (.invokevirtual 214, 3, [199, 4, 12]), (.ireturn, 1, [])])]
abbrev M_X12_isInside : Md := (246, 12, 2, (some .boolean), P_X12_isInside)
theorem ok_X12_isInside : k_okM M_X12_isInside := by unfold k_okM; decide +kernel
def P_X12_turn : CB := [(0, [(.iconst 0, 1, []), (.istore_n 2, 1, []), (.nop, 0, [1])]),
  (2, [(.iload_n 2, 1, []), (.aload_n 0, 1, []), (.getfield 202, 3, [12, 26, 0]), (.if_icmp .ge 85, 3, [8]), (.aload_n 0, 1, []), (.getfield 43, 3, [12, 17, 1]), (.iload_n 2, 1, []), (.iaload, 1, []), (.ifCond .ne 6, 3, [2]), (.goto 67, 3, [7])]),
  (22, [(.aload_n 0, 1, []), (.iload_n 2, 1, []), (.putfield 247, 3, [12, 29, 0]), (.iconst 0, 1, []), (.istore_n 3, 1, []), (.nop, 0, [3])]),
  (29, [(.iload_n 3, 1, []), (.sipush 324, 3, []), (.if_icmp .ge 42, 3, [6]), (.aload_n 0, 1, []), (.getfield 98, 3, [12, 40, 1]), (.iload_n 3, 1, []), (.aload_n 0, 1, []), (.iload_n 3, 1, []), (.invokevirtual 328, 3, [246, 2, 12]), (.ifCond .eq 21, 3, [4]), (.iload_n 1, 1, []), (.aload_n 0, 1, []), (.iload_n 2, 1, []), (.iload_n 3, 1, []), (.invokevirtual 331, 3, [245, 3, 12]), (.imul, 1, []), (.aload_n 0, 1, []), (.getfield 101, 3, [12, 42, 1]), (.iload_n 3, 1, []), (.iaload, 1, []), (.iadd, 1, []), (.goto 4, 3, [5])]),
  (67, [(.iconst 0, 1, []), (.nop, 0, [5])]),
  (68, [(.iastore, 1, []), (.iinc 3 1, 3, []), (.goto (-43), 3, [3])]),
  (75, [(.aload_n 0, 1, []), (.iload_n 2, 1, []), (.invokevirtual 313, 3, [235, 2, 12]), (.iconst (-1), 1, []), (.if_icmp .ne 5, 3, [7]), (.iconst 0, 1, []), (.ireturn, 1, [])]),
  (86, [(.iinc 2 1, 3, []), (.goto (-87), 3, [1])]),
  (92, [(.iconst 1, 1, []), (.ireturn, 1, [])])]
abbrev M_X12_turn : Md := (247, 12, 4, (some .boolean), P_X12_turn)
theorem ok_X12_turn : k_okM M_X12_turn := by unfold k_okM; decide +kernel
def P_X12_crowd : CB := [(0, [(.iconst 0, 1, []), (.istore_n 1, 1, []), (.iconst 0, 1, []), (.istore_n 2, 1, []), (.nop, 0, [1])]),
  (4, [(.iload_n 2, 1, []), (.sipush 324, 3, []), (.if_icmp .ge 97, 3, [11]), (.iconst 0, 1, []), (.istore_n 3, 1, []), (.iconst 0, 1, []), (.istore 4, 2, []), (.nop, 0, [2])]),
  (16, [(.iload 4, 2, []), (.aload_n 0, 1, []), (.getfield 202, 3, [12, 26, 0]), (.if_icmp .ge 47, 3, [6]), (.aload_n 0, 1, []), (.iload_n 2, 1, []), (.invokevirtual 328, 3, [246, 2, 12]), (.ifCond .eq 39, 3, [6]), (.iload_n 3, 1, []), (.ifCond .ne 23, 3, [3]), (.aload_n 0, 1, []), (.iload 4, 2, []), (.iload_n 2, 1, []), (.invokevirtual 322, 3, [243, 3, 12]), (.ifCond .eq 17, 3, [4]), (.aload_n 0, 1, []), (.iload 4, 2, []), (.iload_n 2, 1, []), (.invokevirtual 331, 3, [245, 3, 12]), (.ifCond .le 7, 3, [4]), (.nop, 0, [3])]),
  (57, [(.iconst 1, 1, []), (.goto 4, 3, [5])]),
  (61, [(.iconst 0, 1, []), (.nop, 0, [5])]),
  (62, [(.istore_n 3, 1, []), (.iinc 4 1, 3, []), (.goto (-50), 3, [2])]),
  (69, [(.aload_n 0, 1, []), (.getfield 101, 3, [12, 42, 1]), (.iload_n 2, 1, []), (.dup2, 1, []), (.iaload, 1, []), (.iload_n 3, 1, []), (.ifCond .eq 7, 3, [7]), (.iconst 1, 1, []), (.goto 4, 3, [8])]),
  (84, [(.iconst 0, 1, []), (.nop, 0, [8])]),
  (85, [(.iadd, 1, []), (.iastore, 1, []), (.iload_n 1, 1, []), (.iload_n 3, 1, []), (.ifCond .eq 7, 3, [9]), (.iconst 1, 1, []), (.goto 4, 3, [10])]),
  (96, [(.iconst 0, 1, []), (.nop, 0, [10])]),
  (97, [(.iadd, 1, []), (.istore_n 1, 1, []), (.iinc 2 1, 3, []), (.goto (-98), 3, [1])]),
  (105, [(.iload_n 1, 1, []), (.ireturn, 1, [])])]
abbrev M_X12_crowd : Md := (248, 12, 5, (some .int), P_X12_crowd)
theorem ok_X12_crowd : k_okM M_X12_crowd := by unfold k_okM; decide +kernel
