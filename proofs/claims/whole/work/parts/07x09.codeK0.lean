/-! code as data (written by wip/whole/gencode.py) -/
def P_X11_feed : CB := [(0, [(.iload_n 1, 1, []), (.invokestatic 106, 3, [102, 1]), (.iload_n 2, 1, []), (.invokestatic 106, 3, [102, 1]), (.iadd, 1, []), (.iload_n 3, 1, []), (.invokestatic 106, 3, [102, 1]), (.iadd, 1, []), (.iload 4, 2, []), (.invokestatic 106, 3, [102, 1]), (.iadd, 1, []), (.iload 5, 2, []), (.invokestatic 106, 3, [102, 1]), (.iadd, 1, []), (.istore 6, 2, []), (.aload_n 0, 1, []), (.getfield 31, 3, [11, 1, 1]), (.getfield 110, 3, [8, 3, 0]), (.iload 6, 2, []), (.iadd, 1, []), (.bipush 80, 2, []), (.if_icmp .le 5, 3, [1]), (.iconst (-1), 1, []), (.ireturn, 1, [])]),
  (45, [(.aload_n 0, 1, []), (.getfield 31, 3, [11, 1, 1]), (.iload_n 1, 1, []), (.invokevirtual 113, 3, [103, 2, 8]), (.aload_n 0, 1, []), (.getfield 31, 3, [11, 1, 1]), (.iload_n 2, 1, []), (.invokevirtual 113, 3, [103, 2, 8]), (.aload_n 0, 1, []), (.getfield 31, 3, [11, 1, 1]), (.iload_n 3, 1, []), (.invokevirtual 113, 3, [103, 2, 8]), (.aload_n 0, 1, []), (.getfield 31, 3, [11, 1, 1]), (.iload 4, 2, []), (.invokevirtual 113, 3, [103, 2, 8]), (.aload_n 0, 1, []), (.getfield 31, 3, [11, 1, 1]), (.iload 5, 2, []), (.invokevirtual 113, 3, [103, 2, 8]), (.aload_n 0, 1, []), (.getfield 31, 3, [11, 1, 1]), (.getfield 110, 3, [8, 3, 0]), (.ireturn, 1, [])])]
abbrev M_X11_feed : Md := (130, 11, 7, (some .int), P_X11_feed)
theorem ok_X11_feed : k_okM M_X11_feed := by unfold k_okM; decide +kernel
def P_X11_end : CB := [(0, [(.iload_n 1, 1, []), (.ifCond .lt 14, 3, [1]), (.iload_n 1, 1, []), (.aload_n 0, 1, []), (.getfield 31, 3, [11, 1, 1]), (.getfield 110, 3, [8, 3, 0]), (.if_icmp .le 5, 3, [2]), (.nop, 0, [1])]),
  (15, [(.iconst 0, 1, []), (.ireturn, 1, [])]),
  (17, [(.aload_n 0, 1, []), (.getfield 31, 3, [11, 1, 1]), (.iload_n 1, 1, []), (.putfield 110, 3, [8, 3, 0]), (.iconst 1, 1, []), (.ireturn, 1, [])])]
abbrev M_X11_end : Md := (131, 11, 2, (some .boolean), P_X11_end)
theorem ok_X11_end : k_okM M_X11_end := by unfold k_okM; decide +kernel
def P_X11_fault : CB := [(0, [(.aload_n 0, 1, []), (.getfield 31, 3, [11, 1, 1]), (.invokevirtual 116, 3, [104, 1, 8]), (.ireturn, 1, [])])]
abbrev M_X11_fault : Md := (132, 11, 1, (some .int), P_X11_fault)
theorem ok_X11_fault : k_okM M_X11_fault := by unfold k_okM; decide +kernel
def P_X11_sort : CB := [(0, [(.aload_n 0, 1, []), (.getfield 40, 3, [11, 2, 1]), (.getfield 120, 3, [3, 13, 0]), (.bipush 6, 2, []), (.if_icmp .ge 14, 3, [1]), (.aload_n 0, 1, []), (.getfield 31, 3, [11, 1, 1]), (.invokevirtual 116, 3, [104, 1, 8]), (.iconst (-1), 1, []), (.if_icmp .eq 5, 3, [2]), (.nop, 0, [1])]),
  (23, [(.iconst (-1), 1, []), (.ireturn, 1, [])]),
  (25, [(.aload_n 0, 1, []), (.getfield 31, 3, [11, 1, 1]), (.iconst 0, 1, []), (.putfield 110, 3, [8, 3, 0]), (.aload_n 0, 1, []), (.getfield 40, 3, [11, 2, 1]), (.aload_n 0, 1, []), (.getfield 31, 3, [11, 1, 1]), (.getfield 123, 3, [8, 2, 1]), (.invokevirtual 127, 3, [32, 2, 3]), (.ireturn, 1, [])])]
abbrev M_X11_sort : Md := (133, 11, 1, (some .int), P_X11_sort)
theorem ok_X11_sort : k_okM M_X11_sort := by unfold k_okM; decide +kernel
def P_X11_net : CB := [(0, [(.iload_n 1, 1, []), (.ifCond .lt 26, 3, [1]), (.iload_n 1, 1, []), (.aload_n 0, 1, []), (.getfield 40, 3, [11, 2, 1]), (.getfield 120, 3, [3, 13, 0]), (.if_icmp .ge 15, 3, [1]), (.aload_n 0, 1, []), (.getfield 40, 3, [11, 2, 1]), (.getfield 141, 3, [3, 14, 0]), (.bipush 8, 2, []), (.if_icmp .lt 5, 3, [2]), (.nop, 0, [1])]),
  (27, [(.iconst (-1), 1, []), (.ireturn, 1, [])]),
  (29, [(.aload_n 0, 1, []), (.getfield 40, 3, [11, 2, 1]), (.iload_n 1, 1, []), (.invokevirtual 144, 3, [33, 2, 3]), (.ireturn, 1, [])])]
abbrev M_X11_net : Md := (135, 11, 2, (some .int), P_X11_net)
theorem ok_X11_net : k_okM M_X11_net := by unfold k_okM; decide +kernel
def P_X11_pin : CB := [(0, [(.aload_n 0, 1, []), (.getfield 18, 3, [11, 0, 1]), (.iload_n 2, 1, []), (.iload_n 3, 1, []), (.iload 4, 2, []), (.invokevirtual 147, 3, [29, 4, 2]), (.istore 5, 2, []), (.aload_n 0, 1, []), (.iload_n 1, 1, []), (.invokevirtual 150, 3, [173, 2, 11]), (.ifCond .eq 34, 3, [1]), (.iload 5, 2, []), (.iconst (-1), 1, []), (.if_icmp .eq 28, 3, [1]), (.aload_n 0, 1, []), (.getfield 40, 3, [11, 2, 1]), (.iload 5, 2, []), (.invokevirtual 154, 3, [35, 2, 3]), (.ifCond .ne 16, 3, [1]), (.aload_n 0, 1, []), (.getfield 40, 3, [11, 2, 1]), (.getfield 157, 3, [3, 4, 1]), (.iload_n 1, 1, []), (.iaload, 1, []), (.iconst 4, 1, []), (.if_icmp .lt 5, 3, [2]), (.nop, 0, [1])]),
  (52, [(.iconst (-1), 1, []), (.ireturn, 1, [])]),
  (54, [(.aload_n 0, 1, []), (.getfield 40, 3, [11, 2, 1]), (.iload_n 1, 1, []), (.iload 5, 2, []), (.invokevirtual 160, 3, [37, 3, 3]), (.ireturn, 1, [])])]
abbrev M_X11_pin : Md := (136, 11, 6, (some .int), P_X11_pin)
theorem ok_X11_pin : k_okM M_X11_pin := by unfold k_okM; decide +kernel
def P_X11_keep : CB := [(0, [(.aload_n 0, 1, []), (.getfield 18, 3, [11, 0, 1]), (.iload_n 1, 1, []), (.iload_n 2, 1, []), (.iconst 0, 1, []), (.invokevirtual 147, 3, [29, 4, 2]), (.iconst (-1), 1, []), (.if_icmp .eq 29, 3, [1]), (.aload_n 0, 1, []), (.getfield 18, 3, [11, 0, 1]), (.iload_n 3, 1, []), (.iload 4, 2, []), (.iconst 0, 1, []), (.invokevirtual 147, 3, [29, 4, 2]), (.iconst (-1), 1, []), (.if_icmp .eq 14, 3, [1]), (.iload_n 3, 1, []), (.iload_n 1, 1, []), (.if_icmp .lt 9, 3, [1]), (.iload 4, 2, []), (.iload_n 2, 1, []), (.if_icmp .ge 5, 3, [2]), (.nop, 0, [1])]),
  (40, [(.iconst 0, 1, []), (.ireturn, 1, [])]),
  (42, [(.iload 5, 2, []), (.ifCond .eq 18, 3, [3]), (.iload 5, 2, []), (.aload_n 0, 1, []), (.getfield 18, 3, [11, 0, 1]), (.invokevirtual 164, 3, [30, 1, 2]), (.iconst (-1), 1, []), (.ixor, 1, []), (.iand, 1, []), (.ifCond .eq 5, 3, [4]), (.nop, 0, [3])]),
  (62, [(.iconst 0, 1, []), (.ireturn, 1, [])]),
  (64, [(.iconst 0, 1, []), (.istore 6, 2, []), (.nop, 0, [5])]),
  (67, [(.iload 6, 2, []), (.aload_n 0, 1, []), (.getfield 18, 3, [11, 0, 1]), (.getfield 24, 3, [2, 2, 0]), (.if_icmp .ge 33, 3, [7]), (.iload 5, 2, []), (.iload 6, 2, []), (.ishr, 1, []), (.iconst 1, 1, []), (.iand, 1, []), (.ifCond .eq 17, 3, [6]), (.aload_n 0, 1, []), (.getfield 40, 3, [11, 2, 1]), (.iload_n 1, 1, []), (.iload_n 2, 1, []), (.iload_n 3, 1, []), (.iload 4, 2, []), (.iload 6, 2, []), (.invokevirtual 167, 3, [39, 6, 3]), (.nop, 0, [6])]),
  (103, [(.iinc 6 1, 3, []), (.goto (-39), 3, [5])]),
  (109, [(.iconst 1, 1, []), (.ireturn, 1, [])])]
abbrev M_X11_keep : Md := (137, 11, 7, (some .boolean), P_X11_keep)
theorem ok_X11_keep : k_okM M_X11_keep := by unfold k_okM; decide +kernel
def P_X11_wire : CB := [(0, [(.aload_n 0, 1, []), (.getfield 18, 3, [11, 0, 1]), (.iload_n 2, 1, []), (.iload_n 3, 1, []), (.iload 6, 2, []), (.invokevirtual 147, 3, [29, 4, 2]), (.istore 7, 2, []), (.aload_n 0, 1, []), (.getfield 18, 3, [11, 0, 1]), (.iload 4, 2, []), (.iload 5, 2, []), (.iload 6, 2, []), (.invokevirtual 147, 3, [29, 4, 2]), (.istore 8, 2, []), (.aload_n 0, 1, []), (.iload_n 1, 1, []), (.invokevirtual 150, 3, [173, 2, 11]), (.ifCond .eq 34, 3, [1]), (.iload 7, 2, []), (.iconst (-1), 1, []), (.if_icmp .eq 28, 3, [1]), (.iload 8, 2, []), (.iconst (-1), 1, []), (.if_icmp .eq 22, 3, [1]), (.iload 7, 2, []), (.iload 8, 2, []), (.if_icmp .eq 15, 3, [1]), (.iload_n 2, 1, []), (.iload 4, 2, []), (.if_icmp .eq 11, 3, [2]), (.iload_n 3, 1, []), (.iload 5, 2, []), (.if_icmp .eq 5, 3, [2]), (.nop, 0, [1])]),
  (67, [(.iconst 0, 1, []), (.ireturn, 1, [])]),
  (69, [(.iload_n 2, 1, []), (.iload 4, 2, []), (.if_icmp .ne 17, 3, [4]), (.iload 5, 2, []), (.iload_n 3, 1, []), (.if_icmp .ge 7, 3, [3]), (.iconst 0, 1, []), (.goto 18, 3, [6])]),
  (85, [(.iconst 2, 1, []), (.goto 14, 3, [6])]),
  (89, [(.iload 4, 2, []), (.iload_n 2, 1, []), (.if_icmp .le 7, 3, [5]), (.iconst 1, 1, []), (.goto 4, 3, [6])]),
  (99, [(.iconst 3, 1, []), (.nop, 0, [6])]),
  (100, [(.istore 9, 2, []), (.aload_n 0, 1, []), (.getfield 40, 3, [11, 2, 1]), (.iload_n 1, 1, []), (.iload 7, 2, []), (.iload 9, 2, []), (.iload 4, 2, []), (.iload_n 2, 1, []), (.isub, 1, []), (.invokestatic 171, 3, [2]), (.iload 5, 2, []), (.iload_n 3, 1, []), (.isub, 1, []), (.invokestatic 171, 3, [2]), (.iadd, 1, []), (.invokevirtual 176, 3, [40, 5, 3]), (.iconst 1, 1, []), (.ireturn, 1, [])])]
abbrev M_X11_wire : Md := (138, 11, 10, (some .boolean), P_X11_wire)
theorem ok_X11_wire : k_okM M_X11_wire := by unfold k_okM; decide +kernel
def P_X11_hole : CB := [(0, [(.aload_n 0, 1, []), (.getfield 18, 3, [11, 0, 1]), (.iload_n 2, 1, []), (.iload_n 3, 1, []), (.iload 4, 2, []), (.invokevirtual 147, 3, [29, 4, 2]), (.istore 5, 2, []), (.aload_n 0, 1, []), (.iload_n 1, 1, []), (.invokevirtual 150, 3, [173, 2, 11]), (.ifCond .eq 23, 3, [1]), (.iload 5, 2, []), (.iconst (-1), 1, []), (.if_icmp .eq 17, 3, [1]), (.iload 4, 2, []), (.iconst 1, 1, []), (.iadd, 1, []), (.aload_n 0, 1, []), (.getfield 18, 3, [11, 0, 1]), (.getfield 24, 3, [2, 2, 0]), (.if_icmp .lt 5, 3, [2]), (.nop, 0, [1])]),
  (41, [(.iconst 0, 1, []), (.ireturn, 1, [])]),
  (43, [(.aload_n 0, 1, []), (.getfield 40, 3, [11, 2, 1]), (.iload_n 1, 1, []), (.iload 5, 2, []), (.iconst 4, 1, []), (.iconst 1, 1, []), (.invokevirtual 176, 3, [40, 5, 3]), (.iconst 1, 1, []), (.ireturn, 1, [])])]
abbrev M_X11_hole : Md := (139, 11, 6, (some .boolean), P_X11_hole)
theorem ok_X11_hole : k_okM M_X11_hole := by unfold k_okM; decide +kernel
def P_X11_copper : CB := [(0, [(.aload_n 0, 1, []), (.getfield 18, 3, [11, 0, 1]), (.iload_n 1, 1, []), (.iload_n 2, 1, []), (.iload_n 3, 1, []), (.invokevirtual 147, 3, [29, 4, 2]), (.istore 4, 2, []), (.iload 4, 2, []), (.iconst (-1), 1, []), (.if_icmp .ne 7, 3, [1]), (.iconst (-1), 1, []), (.goto 12, 3, [2])]),
  (22, [(.aload_n 0, 1, []), (.getfield 40, 3, [11, 2, 1]), (.iload 4, 2, []), (.invokevirtual 180, 3, [52, 2, 3]), (.nop, 0, [2])]),
  (31, [(.ireturn, 1, [])])]
abbrev M_X11_copper : Md := (140, 11, 5, (some .int), P_X11_copper)
theorem ok_X11_copper : k_okM M_X11_copper := by unfold k_okM; decide +kernel
def P_X11_free : CB := [(0, [(.aload_n 0, 1, []), (.getfield 18, 3, [11, 0, 1]), (.iload_n 2, 1, []), (.iload_n 3, 1, []), (.iload 4, 2, []), (.invokevirtual 147, 3, [29, 4, 2]), (.istore 5, 2, []), (.aload_n 0, 1, []), (.iload_n 1, 1, []), (.invokevirtual 150, 3, [173, 2, 11]), (.ifCond .eq 9, 3, [1]), (.iload 5, 2, []), (.iconst (-1), 1, []), (.if_icmp .ne 5, 3, [2]), (.nop, 0, [1])]),
  (27, [(.iconst (-1), 1, []), (.ireturn, 1, [])]),
  (29, [(.aload_n 0, 1, []), (.getfield 49, 3, [11, 3, 1]), (.iload_n 1, 1, []), (.iconst 1, 1, []), (.invokevirtual 183, 3, [77, 3, 6]), (.aload_n 0, 1, []), (.getfield 49, 3, [11, 3, 1]), (.iconst 0, 1, []), (.invokevirtual 187, 3, [81, 2, 6]), (.aload_n 0, 1, []), (.getfield 49, 3, [11, 3, 1]), (.getfield 190, 3, [6, 5, 1]), (.iload 5, 2, []), (.iaload, 1, []), (.ireturn, 1, [])])]
abbrev M_X11_free : Md := (141, 11, 6, (some .int), P_X11_free)
theorem ok_X11_free : k_okM M_X11_free := by unfold k_okM; decide +kernel
def P_X11_lay : CB := [(0, [(.aload_n 0, 1, []), (.iload_n 1, 1, []), (.invokevirtual 150, 3, [173, 2, 11]), (.ifCond .eq 14, 3, [1]), (.aload_n 0, 1, []), (.getfield 58, 3, [11, 4, 1]), (.iload_n 1, 1, []), (.invokevirtual 193, 3, [89, 2, 7]), (.goto 4, 3, [2])]),
  (19, [(.iconst (-1), 1, []), (.nop, 0, [2])]),
  (20, [(.ireturn, 1, [])])]
abbrev M_X11_lay : Md := (142, 11, 2, (some .int), P_X11_lay)
theorem ok_X11_lay : k_okM M_X11_lay := by unfold k_okM; decide +kernel
def P_X11_cost : CB := [(0, [(.aload_n 0, 1, []), (.iload_n 1, 1, []), (.invokevirtual 150, 3, [173, 2, 11]), (.ifCond .eq 15, 3, [1]), (.aload_n 0, 1, []), (.getfield 58, 3, [11, 4, 1]), (.iload_n 1, 1, []), (.iload_n 2, 1, []), (.invokevirtual 196, 3, [90, 3, 7]), (.goto 4, 3, [2])]),
  (20, [(.iconst (-1), 1, []), (.nop, 0, [2])]),
  (21, [(.ireturn, 1, [])])]
abbrev M_X11_cost : Md := (143, 11, 3, (some .int), P_X11_cost)
theorem ok_X11_cost : k_okM M_X11_cost := by unfold k_okM; decide +kernel
def P_X11_rip : CB := [(0, [(.aload_n 0, 1, []), (.iload_n 1, 1, []), (.invokevirtual 150, 3, [173, 2, 11]), (.ifCond .eq 14, 3, [1]), (.aload_n 0, 1, []), (.getfield 40, 3, [11, 2, 1]), (.iload_n 1, 1, []), (.invokevirtual 200, 3, [48, 2, 3]), (.ifCond .ne 5, 3, [2]), (.nop, 0, [1])]),
  (19, [(.iconst 0, 1, []), (.ireturn, 1, [])]),
  (21, [(.aload_n 0, 1, []), (.getfield 40, 3, [11, 2, 1]), (.iload_n 1, 1, []), (.invokevirtual 203, 3, [44, 2, 3]), (.iconst 1, 1, []), (.ireturn, 1, [])])]
abbrev M_X11_rip : Md := (144, 11, 2, (some .boolean), P_X11_rip)
theorem ok_X11_rip : k_okM M_X11_rip := by unfold k_okM; decide +kernel
def P_X11_rank : CB := [(0, [(.aload_n 0, 1, []), (.iload_n 1, 1, []), (.invokevirtual 150, 3, [173, 2, 11]), (.ifCond .eq 13, 3, [1]), (.iload_n 2, 1, []), (.ifCond .lt 9, 3, [1]), (.iload_n 2, 1, []), (.bipush 99, 2, []), (.if_icmp .le 5, 3, [2]), (.nop, 0, [1])]),
  (18, [(.iconst 0, 1, []), (.ireturn, 1, [])]),
  (20, [(.aload_n 0, 1, []), (.getfield 40, 3, [11, 2, 1]), (.getfield 206, 3, [3, 3, 1]), (.iload_n 1, 1, []), (.iload_n 2, 1, []), (.iastore, 1, []), (.iconst 1, 1, []), (.ireturn, 1, [])])]
abbrev M_X11_rank : Md := (145, 11, 3, (some .boolean), P_X11_rank)
theorem ok_X11_rank : k_okM M_X11_rank := by unfold k_okM; decide +kernel
def P_X11_order : CB := [(0, [(.aload_n 0, 1, []), (.getfield 67, 3, [11, 5, 1]), (.invokevirtual 209, 3, [68, 1, 5]), (.ireturn, 1, [])])]
abbrev M_X11_order : Md := (146, 11, 1, (some .int), P_X11_order)
theorem ok_X11_order : k_okM M_X11_order := by unfold k_okM; decide +kernel
def P_X11_press : CB := [(0, [(.iload_n 1, 1, []), (.iload_n 2, 1, []), (.invokestatic 212, 3, [176, 2]), (.ifCond .ne 5, 3, [1]), (.iconst (-1), 1, []), (.ireturn, 1, [])]),
  (10, [(.aload_n 0, 1, []), (.getfield 40, 3, [11, 2, 1]), (.invokevirtual 216, 3, [57, 1, 3]), (.aload_n 0, 1, []), (.getfield 67, 3, [11, 5, 1]), (.iload_n 1, 1, []), (.iload_n 2, 1, []), (.invokevirtual 219, 3, [69, 3, 5]), (.istore_n 3, 1, []), (.iload_n 3, 1, []), (.iconst (-1), 1, []), (.if_icmp .ne 10, 3, [2]), (.aload_n 0, 1, []), (.getfield 40, 3, [11, 2, 1]), (.invokevirtual 222, 3, [58, 1, 3]), (.nop, 0, [2])]),
  (39, [(.iload_n 3, 1, []), (.ireturn, 1, [])])]
abbrev M_X11_press : Md := (147, 11, 4, (some .int), P_X11_press)
theorem ok_X11_press : k_okM M_X11_press := by unfold k_okM; decide +kernel
def P_X11_cut : CB := [(0, [(.aload_n 0, 1, []), (.iload_n 1, 1, []), (.invokevirtual 150, 3, [173, 2, 11]), (.ifCond .eq 24, 3, [1]), (.iload_n 2, 1, []), (.ifCond .lt 20, 3, [1]), (.iload_n 2, 1, []), (.iconst 3, 1, []), (.if_icmp .gt 15, 3, [1]), (.aload_n 0, 1, []), (.getfield 40, 3, [11, 2, 1]), (.getfield 157, 3, [3, 4, 1]), (.iload_n 1, 1, []), (.iaload, 1, []), (.ifCond .ne 5, 3, [2]), (.nop, 0, [1])]),
  (29, [(.iconst (-1), 1, []), (.ireturn, 1, [])]),
  (31, [(.aload_n 0, 1, []), (.getfield 74, 3, [11, 6, 1]), (.iload_n 1, 1, []), (.iload_n 2, 1, []), (.invokevirtual 225, 3, [18, 3, 1]), (.ireturn, 1, [])])]
abbrev M_X11_cut : Md := (148, 11, 3, (some .int), P_X11_cut)
theorem ok_X11_cut : k_okM M_X11_cut := by unfold k_okM; decide +kernel
def P_X11_bars : CB := [(0, [(.aload_n 0, 1, []), (.iload_n 1, 1, []), (.invokevirtual 150, 3, [173, 2, 11]), (.ifCond .eq 28, 3, [1]), (.aload_n 0, 1, []), (.getfield 40, 3, [11, 2, 1]), (.getfield 157, 3, [3, 4, 1]), (.iload_n 1, 1, []), (.iaload, 1, []), (.ifCond .le 16, 3, [1]), (.aload_n 0, 1, []), (.getfield 74, 3, [11, 6, 1]), (.iload_n 1, 1, []), (.bipush 6, 2, []), (.invokevirtual 228, 3, [22, 3, 1]), (.goto 4, 3, [2])]),
  (33, [(.iconst (-1), 1, []), (.nop, 0, [2])]),
  (34, [(.ireturn, 1, [])])]
abbrev M_X11_bars : Md := (149, 11, 2, (some .int), P_X11_bars)
theorem ok_X11_bars : k_okM M_X11_bars := by unfold k_okM; decide +kernel
def P_X11_together : CB := [(0, [(.aload_n 0, 1, []), (.iload_n 1, 1, []), (.invokevirtual 231, 3, [175, 2, 11]), (.ifCond .eq 14, 3, [1]), (.aload_n 0, 1, []), (.getfield 81, 3, [11, 7, 1]), (.iload_n 1, 1, []), (.invokevirtual 234, 3, [120, 2, 10]), (.goto 4, 3, [2])]),
  (19, [(.iconst (-1), 1, []), (.nop, 0, [2])]),
  (20, [(.ireturn, 1, [])])]
abbrev M_X11_together : Md := (150, 11, 2, (some .int), P_X11_together)
theorem ok_X11_together : k_okM M_X11_together := by unfold k_okM; decide +kernel
def P_X11_about : CB := [(0, [(.aload_n 0, 1, []), (.iload_n 1, 1, []), (.invokevirtual 150, 3, [173, 2, 11]), (.ifCond .ne 5, 3, [1]), (.iconst (-1), 1, []), (.ireturn, 1, [])]),
  (10, [(.iload_n 2, 1, []), (.tableswitch 80 0 4 #[33, 42, 51, 60, 70], 33, [7, 2, 3, 4, 5, 6])]),
  (44, [(.aload_n 0, 1, []), (.getfield 40, 3, [11, 2, 1]), (.iload_n 1, 1, []), (.invokevirtual 237, 3, [54, 2, 3]), (.ireturn, 1, [])]),
  (53, [(.aload_n 0, 1, []), (.getfield 40, 3, [11, 2, 1]), (.iload_n 1, 1, []), (.invokevirtual 240, 3, [55, 2, 3]), (.ireturn, 1, [])]),
  (62, [(.aload_n 0, 1, []), (.getfield 40, 3, [11, 2, 1]), (.iload_n 1, 1, []), (.invokevirtual 243, 3, [56, 2, 3]), (.ireturn, 1, [])]),
  (71, [(.aload_n 0, 1, []), (.getfield 40, 3, [11, 2, 1]), (.getfield 157, 3, [3, 4, 1]), (.iload_n 1, 1, []), (.iaload, 1, []), (.ireturn, 1, [])]),
  (81, [(.aload_n 0, 1, []), (.getfield 40, 3, [11, 2, 1]), (.getfield 206, 3, [3, 3, 1]), (.iload_n 1, 1, []), (.iaload, 1, []), (.ireturn, 1, [])]),
  (91, [(.iconst (-1), 1, []), (.ireturn, 1, [])])]
abbrev M_X11_about : Md := (151, 11, 3, (some .int), P_X11_about)
theorem ok_X11_about : k_okM M_X11_about := by unfold k_okM; decide +kernel
def P_X11_stretch : CB := [(0, [(.aload_n 0, 1, []), (.iload_n 1, 1, []), (.invokevirtual 150, 3, [173, 2, 11]), (.ifCond .eq 25, 3, [1]), (.iload_n 2, 1, []), (.ifCond .lt 21, 3, [1]), (.iload_n 2, 1, []), (.sipush 200, 3, []), (.if_icmp .gt 14, 3, [1]), (.aload_n 0, 1, []), (.getfield 102, 3, [11, 10, 1]), (.iload_n 1, 1, []), (.invokevirtual 246, 3, [112, 2, 9]), (.ifCond .ne 5, 3, [2]), (.nop, 0, [1])]),
  (30, [(.iconst (-1), 1, []), (.ireturn, 1, [])]),
  (32, [(.aload_n 0, 1, []), (.getfield 102, 3, [11, 10, 1]), (.iload_n 1, 1, []), (.iload_n 2, 1, []), (.invokevirtual 249, 3, [114, 3, 9]), (.ireturn, 1, [])])]
abbrev M_X11_stretch : Md := (152, 11, 3, (some .int), P_X11_stretch)
theorem ok_X11_stretch : k_okM M_X11_stretch := by unfold k_okM; decide +kernel
def P_X11_span : CB := [(0, [(.aload_n 0, 1, []), (.iload_n 1, 1, []), (.invokevirtual 150, 3, [173, 2, 11]), (.ifCond .eq 14, 3, [1]), (.aload_n 0, 1, []), (.getfield 102, 3, [11, 10, 1]), (.iload_n 1, 1, []), (.invokevirtual 246, 3, [112, 2, 9]), (.ifCond .ne 5, 3, [2]), (.nop, 0, [1])]),
  (19, [(.iconst (-1), 1, []), (.ireturn, 1, [])]),
  (21, [(.aload_n 0, 1, []), (.getfield 40, 3, [11, 2, 1]), (.invokevirtual 216, 3, [57, 1, 3]), (.aload_n 0, 1, []), (.getfield 102, 3, [11, 10, 1]), (.iload_n 1, 1, []), (.ldc 252, 2, [2147483647]), (.invokevirtual 249, 3, [114, 3, 9]), (.istore_n 2, 1, []), (.aload_n 0, 1, []), (.getfield 40, 3, [11, 2, 1]), (.invokevirtual 222, 3, [58, 1, 3]), (.iload_n 2, 1, []), (.ireturn, 1, [])])]
abbrev M_X11_span : Md := (153, 11, 3, (some .int), P_X11_span)
theorem ok_X11_span : k_okM M_X11_span := by unfold k_okM; decide +kernel
def P_X11_equal : CB := [(0, [(.aload_n 0, 1, []), (.iload_n 1, 1, []), (.invokevirtual 231, 3, [175, 2, 11]), (.ifCond .eq 14, 3, [1]), (.iload_n 2, 1, []), (.ifCond .lt 10, 3, [1]), (.iload_n 2, 1, []), (.sipush 200, 3, []), (.if_icmp .le 5, 3, [2]), (.nop, 0, [1])]),
  (19, [(.iconst (-1), 1, []), (.ireturn, 1, [])]),
  (21, [(.ldc 252, 2, [2147483647]), (.istore_n 3, 1, []), (.iconst 0, 1, []), (.istore 4, 2, []), (.iconst 0, 1, []), (.istore 5, 2, []), (.nop, 0, [3])]),
  (30, [(.iload 5, 2, []), (.aload_n 0, 1, []), (.getfield 40, 3, [11, 2, 1]), (.getfield 141, 3, [3, 14, 0]), (.if_icmp .ge 45, 3, [5]), (.iload_n 1, 1, []), (.iload 5, 2, []), (.ishr, 1, []), (.iconst 1, 1, []), (.iand, 1, []), (.ifCond .eq 30, 3, [4]), (.aload_n 0, 1, []), (.getfield 40, 3, [11, 2, 1]), (.iload 5, 2, []), (.invokevirtual 237, 3, [54, 2, 3]), (.istore 6, 2, []), (.iload_n 3, 1, []), (.iload 6, 2, []), (.invokestatic 253, 3, [1]), (.istore_n 3, 1, []), (.iload 4, 2, []), (.iload 6, 2, []), (.invokestatic 256, 3, [0]), (.istore 4, 2, []), (.nop, 0, [4])]),
  (78, [(.iinc 5 1, 3, []), (.goto (-51), 3, [3])]),
  (84, [(.iload 4, 2, []), (.iload_n 3, 1, []), (.isub, 1, []), (.iload_n 2, 1, []), (.if_icmp .gt 7, 3, [6]), (.iconst 1, 1, []), (.goto 4, 3, [7])]),
  (96, [(.iconst 0, 1, []), (.nop, 0, [7])]),
  (97, [(.ireturn, 1, [])])]
abbrev M_X11_equal : Md := (154, 11, 7, (some .int), P_X11_equal)
theorem ok_X11_equal : k_okM M_X11_equal := by unfold k_okM; decide +kernel
def P_X11_plane : CB := [(0, [(.aload_n 0, 1, []), (.iload_n 1, 1, []), (.invokevirtual 150, 3, [173, 2, 11]), (.ifCond .eq 20, 3, [1]), (.aload_n 0, 1, []), (.iload_n 2, 1, []), (.invokevirtual 259, 3, [174, 2, 11]), (.ifCond .eq 12, 3, [1]), (.iload_n 3, 1, []), (.ifCond .lt 8, 3, [1]), (.iload_n 3, 1, []), (.iconst 3, 1, []), (.if_icmp .le 5, 3, [2]), (.nop, 0, [1])]),
  (25, [(.iconst (-1), 1, []), (.ireturn, 1, [])]),
  (27, [(.aload_n 0, 1, []), (.getfield 88, 3, [11, 8, 1]), (.iload_n 1, 1, []), (.iload_n 2, 1, []), (.iload_n 3, 1, []), (.invokevirtual 262, 3, [61, 4, 4]), (.ireturn, 1, [])])]
abbrev M_X11_plane : Md := (155, 11, 4, (some .int), P_X11_plane)
theorem ok_X11_plane : k_okM M_X11_plane := by unfold k_okM; decide +kernel
def P_X11_spokes : CB := [(0, [(.aload_n 0, 1, []), (.iload_n 1, 1, []), (.invokevirtual 150, 3, [173, 2, 11]), (.ifCond .eq 20, 3, [1]), (.iload_n 2, 1, []), (.ifCond .lt 16, 3, [1]), (.iload_n 2, 1, []), (.aload_n 0, 1, []), (.getfield 40, 3, [11, 2, 1]), (.getfield 157, 3, [3, 4, 1]), (.iload_n 1, 1, []), (.iaload, 1, []), (.if_icmp .lt 5, 3, [2]), (.nop, 0, [1])]),
  (25, [(.iconst (-1), 1, []), (.ireturn, 1, [])]),
  (27, [(.aload_n 0, 1, []), (.getfield 88, 3, [11, 8, 1]), (.iload_n 1, 1, []), (.aload_n 0, 1, []), (.getfield 40, 3, [11, 2, 1]), (.iload_n 1, 1, []), (.iload_n 2, 1, []), (.invokevirtual 265, 3, [36, 3, 3]), (.invokevirtual 268, 3, [65, 3, 4]), (.ireturn, 1, [])])]
abbrev M_X11_spokes : Md := (156, 11, 3, (some .int), P_X11_spokes)
theorem ok_X11_spokes : k_okM M_X11_spokes := by unfold k_okM; decide +kernel
def P_X11_back : CB := [(0, [(.aload_n 0, 1, []), (.iload_n 1, 1, []), (.invokevirtual 150, 3, [173, 2, 11]), (.ifCond .eq 24, 3, [1]), (.aload_n 0, 1, []), (.iload_n 2, 1, []), (.invokevirtual 150, 3, [173, 2, 11]), (.ifCond .eq 16, 3, [1]), (.iload_n 1, 1, []), (.iload_n 2, 1, []), (.if_icmp .eq 11, 3, [1]), (.aload_n 0, 1, []), (.iload_n 3, 1, []), (.invokevirtual 259, 3, [174, 2, 11]), (.ifCond .ne 5, 3, [2]), (.nop, 0, [1])]),
  (29, [(.iconst (-1), 1, []), (.ireturn, 1, [])]),
  (31, [(.aload_n 0, 1, []), (.getfield 88, 3, [11, 8, 1]), (.iload_n 1, 1, []), (.iload_n 2, 1, []), (.iload_n 3, 1, []), (.invokevirtual 271, 3, [66, 4, 4]), (.ireturn, 1, [])])]
abbrev M_X11_back : Md := (157, 11, 4, (some .int), P_X11_back)
theorem ok_X11_back : k_okM M_X11_back := by unfold k_okM; decide +kernel
