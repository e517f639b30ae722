/-! code as data (written by wip/whole/gencode.py) -/
def P_X11_wander : CB := [(0, [(.iload_n 1, 1, []), (.bipush (-3), 2, []), (.if_icmp .lt 28, 3, [1]), (.iload_n 1, 1, []), (.iconst 3, 1, []), (.if_icmp .gt 23, 3, [1]), (.iload_n 2, 1, []), (.bipush (-3), 2, []), (.if_icmp .lt 17, 3, [1]), (.iload_n 2, 1, []), (.iconst 3, 1, []), (.if_icmp .gt 12, 3, [1]), (.iload_n 3, 1, []), (.ifCond .lt 8, 3, [1]), (.iload_n 3, 1, []), (.iconst 1, 1, []), (.if_icmp .le 5, 3, [2]), (.nop, 0, [1])]),
  (31, [(.iconst (-1), 1, []), (.ireturn, 1, [])]),
  (33, [(.aload_n 0, 1, []), (.getfield 95, 3, [11, 9, 1]), (.iload_n 1, 1, []), (.iload_n 2, 1, []), (.invokevirtual 274, 3, [1, 3, 0]), (.iload_n 3, 1, []), (.ifCond .ne 13, 3, [3]), (.aload_n 0, 1, []), (.getfield 95, 3, [11, 9, 1]), (.getfield 278, 3, [0, 3, 0]), (.goto 10, 3, [4])]),
  (56, [(.aload_n 0, 1, []), (.getfield 95, 3, [11, 9, 1]), (.getfield 281, 3, [0, 4, 0]), (.nop, 0, [4])]),
  (63, [(.ireturn, 1, [])])]
abbrev M_X11_wander : Md := (158, 11, 4, (some .int), P_X11_wander)
theorem ok_X11_wander : k_okM M_X11_wander := by unfold k_okM; decide +kernel
def P_X11_worst : CB := [(0, [(.iload_n 1, 1, []), (.ifCond .lt 17, 3, [1]), (.iload_n 1, 1, []), (.iconst 3, 1, []), (.if_icmp .gt 12, 3, [1]), (.iload_n 2, 1, []), (.ifCond .lt 8, 3, [1]), (.iload_n 2, 1, []), (.iconst 2, 1, []), (.if_icmp .le 7, 3, [2]), (.nop, 0, [1])]),
  (18, [(.sipush (-1000), 3, []), (.ireturn, 1, [])]),
  (22, [(.aload_n 0, 1, []), (.getfield 95, 3, [11, 9, 1]), (.iload_n 1, 1, []), (.iload_n 2, 1, []), (.invokevirtual 284, 3, [3, 3, 0]), (.ireturn, 1, [])])]
abbrev M_X11_worst : Md := (159, 11, 3, (some .int), P_X11_worst)
theorem ok_X11_worst : k_okM M_X11_worst := by unfold k_okM; decide +kernel
def P_X11_late : CB := [(0, [(.aload_n 0, 1, []), (.getfield 18, 3, [11, 0, 1]), (.iload_n 3, 1, []), (.iload 4, 2, []), (.iload 5, 2, []), (.invokevirtual 147, 3, [29, 4, 2]), (.istore 6, 2, []), (.aload_n 0, 1, []), (.iload_n 1, 1, []), (.invokevirtual 150, 3, [173, 2, 11]), (.ifCond .eq 38, 3, [1]), (.iload_n 2, 1, []), (.ifCond .lt 34, 3, [1]), (.iload_n 2, 1, []), (.aload_n 0, 1, []), (.getfield 40, 3, [11, 2, 1]), (.getfield 157, 3, [3, 4, 1]), (.iload_n 1, 1, []), (.iaload, 1, []), (.if_icmp .ge 21, 3, [1]), (.iload 6, 2, []), (.iconst (-1), 1, []), (.if_icmp .eq 15, 3, [1]), (.aload_n 0, 1, []), (.getfield 40, 3, [11, 2, 1]), (.iload 6, 2, []), (.invokevirtual 154, 3, [35, 2, 3]), (.ifCond .eq 5, 3, [2]), (.nop, 0, [1])]),
  (57, [(.iconst (-1), 1, []), (.ireturn, 1, [])]),
  (59, [(.aload_n 0, 1, []), (.getfield 74, 3, [11, 6, 1]), (.iload_n 1, 1, []), (.iload_n 2, 1, []), (.iload 6, 2, []), (.invokevirtual 287, 3, [26, 4, 1]), (.ireturn, 1, [])])]
abbrev M_X11_late : Md := (160, 11, 7, (some .int), P_X11_late)
theorem ok_X11_late : k_okM M_X11_late := by unfold k_okM; decide +kernel
def P_X11_netlist : CB := [(0, [(.iload_n 1, 1, []), (.ifCond .lt 8, 3, [1]), (.iload_n 1, 1, []), (.iconst 1, 1, []), (.if_icmp .le 5, 3, [2]), (.nop, 0, [1])]),
  (9, [(.iconst (-1), 1, []), (.ireturn, 1, [])]),
  (11, [(.aload_n 0, 1, []), (.getfield 95, 3, [11, 9, 1]), (.invokevirtual 290, 3, [4, 1, 0]), (.iload_n 1, 1, []), (.ifCond .ne 13, 3, [3]), (.aload_n 0, 1, []), (.getfield 95, 3, [11, 9, 1]), (.invokevirtual 293, 3, [7, 1, 0]), (.goto 10, 3, [4])]),
  (32, [(.aload_n 0, 1, []), (.getfield 95, 3, [11, 9, 1]), (.invokevirtual 296, 3, [9, 1, 0]), (.nop, 0, [4])]),
  (39, [(.ireturn, 1, [])])]
abbrev M_X11_netlist : Md := (161, 11, 2, (some .int), P_X11_netlist)
theorem ok_X11_netlist : k_okM M_X11_netlist := by unfold k_okM; decide +kernel
def P_X11_test : CB := [(0, [(.aload_n 0, 1, []), (.iload_n 1, 1, []), (.invokevirtual 259, 3, [174, 2, 11]), (.ifCond .eq 14, 3, [1]), (.aload_n 0, 1, []), (.getfield 95, 3, [11, 9, 1]), (.iload_n 1, 1, []), (.invokevirtual 299, 3, [11, 2, 0]), (.goto 4, 3, [2])]),
  (19, [(.iconst (-1), 1, []), (.nop, 0, [2])]),
  (20, [(.ireturn, 1, [])])]
abbrev M_X11_test : Md := (162, 11, 2, (some .int), P_X11_test)
theorem ok_X11_test : k_okM M_X11_test := by unfold k_okM; decide +kernel
def P_X11_slow : CB := [(0, [(.iload_n 1, 1, []), (.iconst (-1), 1, []), (.if_icmp .eq 11, 3, [1]), (.aload_n 0, 1, []), (.iload_n 1, 1, []), (.invokevirtual 259, 3, [174, 2, 11]), (.ifCond .eq 13, 3, [2]), (.nop, 0, [1])]),
  (13, [(.iload_n 2, 1, []), (.ifCond .lt 9, 3, [2]), (.iload_n 2, 1, []), (.bipush 99, 2, []), (.if_icmp .le 5, 3, [3]), (.nop, 0, [2])]),
  (23, [(.iconst 0, 1, []), (.ireturn, 1, [])]),
  (25, [(.aload_n 0, 1, []), (.getfield 95, 3, [11, 9, 1]), (.getfield 302, 3, [0, 2, 1]), (.iload_n 1, 1, []), (.iconst 1, 1, []), (.iadd, 1, []), (.iload_n 2, 1, []), (.iastore, 1, []), (.iconst 1, 1, []), (.ireturn, 1, [])])]
abbrev M_X11_slow : Md := (163, 11, 3, (some .boolean), P_X11_slow)
theorem ok_X11_slow : k_okM M_X11_slow := by unfold k_okM; decide +kernel
def P_X11_delay : CB := [(0, [(.aload_n 0, 1, []), (.iload_n 1, 1, []), (.invokevirtual 150, 3, [173, 2, 11]), (.ifCond .eq 14, 3, [1]), (.aload_n 0, 1, []), (.getfield 95, 3, [11, 9, 1]), (.iload_n 1, 1, []), (.invokevirtual 305, 3, [13, 2, 0]), (.goto 4, 3, [2])]),
  (19, [(.iconst (-1), 1, []), (.nop, 0, [2])]),
  (20, [(.ireturn, 1, [])])]
abbrev M_X11_delay : Md := (164, 11, 2, (some .int), P_X11_delay)
theorem ok_X11_delay : k_okM M_X11_delay := by unfold k_okM; decide +kernel
def P_X11_pair : CB := [(0, [(.aload_n 0, 1, []), (.iload_n 1, 1, []), (.invokevirtual 150, 3, [173, 2, 11]), (.ifCond .eq 16, 3, [1]), (.aload_n 0, 1, []), (.iload_n 2, 1, []), (.invokevirtual 150, 3, [173, 2, 11]), (.ifCond .eq 8, 3, [1]), (.iload_n 1, 1, []), (.iload_n 2, 1, []), (.if_icmp .ne 7, 3, [2]), (.nop, 0, [1])]),
  (21, [(.sipush (-1000), 3, []), (.ireturn, 1, [])]),
  (25, [(.iload_n 3, 1, []), (.tableswitch 95 0 3 #[30, 40, 58, 85], 30, [9, 3, 4, 5, 8])]),
  (56, [(.aload_n 0, 1, []), (.getfield 95, 3, [11, 9, 1]), (.iload_n 1, 1, []), (.iload_n 2, 1, []), (.invokevirtual 308, 3, [15, 3, 0]), (.ireturn, 1, [])]),
  (66, [(.aload_n 0, 1, []), (.getfield 95, 3, [11, 9, 1]), (.iload_n 1, 1, []), (.invokevirtual 305, 3, [13, 2, 0]), (.aload_n 0, 1, []), (.getfield 95, 3, [11, 9, 1]), (.iload_n 2, 1, []), (.invokevirtual 305, 3, [13, 2, 0]), (.isub, 1, []), (.ireturn, 1, [])]),
  (84, [(.aload_n 0, 1, []), (.getfield 102, 3, [11, 10, 1]), (.iload_n 1, 1, []), (.invokevirtual 246, 3, [112, 2, 9]), (.ifCond .eq 15, 3, [6]), (.aload_n 0, 1, []), (.getfield 102, 3, [11, 10, 1]), (.iload_n 1, 1, []), (.iload_n 2, 1, []), (.invokevirtual 311, 3, [117, 3, 9]), (.goto 6, 3, [7])]),
  (107, [(.sipush (-1000), 3, []), (.nop, 0, [7])]),
  (110, [(.ireturn, 1, [])]),
  (111, [(.aload_n 0, 1, []), (.getfield 95, 3, [11, 9, 1]), (.iload_n 1, 1, []), (.iload_n 2, 1, []), (.invokevirtual 314, 3, [16, 3, 0]), (.ireturn, 1, [])]),
  (121, [(.sipush (-1000), 3, []), (.ireturn, 1, [])])]
abbrev M_X11_pair : Md := (165, 11, 4, (some .int), P_X11_pair)
theorem ok_X11_pair : k_okM M_X11_pair := by unfold k_okM; decide +kernel
def P_X11_beside : CB := [(0, [(.iload_n 1, 1, []), (.iload_n 2, 1, []), (.invokestatic 212, 3, [176, 2]), (.ifCond .eq 12, 3, [1]), (.iload_n 3, 1, []), (.ifCond .lt 8, 3, [1]), (.iload_n 3, 1, []), (.iconst 5, 1, []), (.if_icmp .le 5, 3, [2]), (.nop, 0, [1])]),
  (17, [(.iconst (-1), 1, []), (.ireturn, 1, [])]),
  (19, [(.aload_n 0, 1, []), (.getfield 40, 3, [11, 2, 1]), (.invokevirtual 216, 3, [57, 1, 3]), (.iload_n 3, 1, []), (.iconst 3, 1, []), (.if_icmp .ge 14, 3, [3]), (.aload_n 0, 1, []), (.getfield 67, 3, [11, 5, 1]), (.iload_n 3, 1, []), (.invokevirtual 317, 3, [72, 2, 5]), (.goto 13, 3, [4])]),
  (42, [(.aload_n 0, 1, []), (.getfield 67, 3, [11, 5, 1]), (.iload_n 1, 1, []), (.iload_n 2, 1, []), (.iload_n 3, 1, []), (.invokevirtual 320, 3, [73, 4, 5]), (.nop, 0, [4])]),
  (52, [(.istore 4, 2, []), (.aload_n 0, 1, []), (.getfield 40, 3, [11, 2, 1]), (.invokevirtual 222, 3, [58, 1, 3]), (.iload 4, 2, []), (.ireturn, 1, [])])]
abbrev M_X11_beside : Md := (166, 11, 5, (some .int), P_X11_beside)
theorem ok_X11_beside : k_okM M_X11_beside := by unfold k_okM; decide +kernel
def P_X11_why : CB := [(0, [(.aload_n 0, 1, []), (.iload_n 1, 1, []), (.invokevirtual 150, 3, [173, 2, 11]), (.ifCond .eq 26, 3, [1]), (.aload_n 0, 1, []), (.getfield 40, 3, [11, 2, 1]), (.getfield 157, 3, [3, 4, 1]), (.iload_n 1, 1, []), (.iaload, 1, []), (.ifCond .le 14, 3, [1]), (.aload_n 0, 1, []), (.getfield 74, 3, [11, 6, 1]), (.iload_n 1, 1, []), (.invokevirtual 323, 3, [23, 2, 1]), (.goto 4, 3, [2])]),
  (31, [(.iconst (-1), 1, []), (.nop, 0, [2])]),
  (32, [(.ireturn, 1, [])])]
abbrev M_X11_why : Md := (167, 11, 2, (some .int), P_X11_why)
theorem ok_X11_why : k_okM M_X11_why := by unfold k_okM; decide +kernel
def P_X11_steady : CB := [(0, [(.aload_n 0, 1, []), (.getfield 40, 3, [11, 2, 1]), (.invokevirtual 216, 3, [57, 1, 3]), (.aload_n 0, 1, []), (.getfield 67, 3, [11, 5, 1]), (.invokevirtual 209, 3, [68, 1, 5]), (.pop, 1, []), (.aload_n 0, 1, []), (.getfield 40, 3, [11, 2, 1]), (.invokevirtual 326, 3, [59, 1, 3]), (.istore_n 1, 1, []), (.aload_n 0, 1, []), (.getfield 40, 3, [11, 2, 1]), (.invokevirtual 222, 3, [58, 1, 3]), (.iload_n 1, 1, []), (.ireturn, 1, [])])]
abbrev M_X11_steady : Md := (168, 11, 2, (some .boolean), P_X11_steady)
theorem ok_X11_steady : k_okM M_X11_steady := by unfold k_okM; decide +kernel
def P_X11_panel : CB := [(0, [(.iload_n 1, 1, []), (.iconst 1, 1, []), (.if_icmp .lt 22, 3, [1]), (.iload_n 1, 1, []), (.sipush 200, 3, []), (.if_icmp .gt 15, 3, [1]), (.iload_n 2, 1, []), (.iconst 1, 1, []), (.if_icmp .lt 10, 3, [1]), (.iload_n 2, 1, []), (.sipush 200, 3, []), (.if_icmp .le 5, 3, [2]), (.nop, 0, [1])]),
  (24, [(.iconst (-1), 1, []), (.ireturn, 1, [])]),
  (26, [(.iload_n 3, 1, []), (.ifCond .lt 20, 3, [3]), (.iload_n 3, 1, []), (.bipush 9, 2, []), (.if_icmp .gt 14, 3, [3]), (.iload 4, 2, []), (.ifCond .lt 9, 3, [3]), (.iload 4, 2, []), (.iconst 3, 1, []), (.if_icmp .le 5, 3, [4]), (.nop, 0, [3])]),
  (47, [(.iconst (-1), 1, []), (.ireturn, 1, [])]),
  (49, [(.iload 4, 2, []), (.iconst 2, 1, []), (.if_icmp .lt 22, 3, [7]), (.aload_n 0, 1, []), (.iload_n 1, 1, []), (.iload_n 2, 1, []), (.iload_n 3, 1, []), (.iload 4, 2, []), (.iconst 2, 1, []), (.if_icmp .ne 7, 3, [5]), (.iconst 1, 1, []), (.goto 4, 3, [6])]),
  (69, [(.iconst 0, 1, []), (.nop, 0, [6])]),
  (70, [(.invokevirtual 330, 3, [178, 5, 11]), (.ireturn, 1, [])]),
  (74, [(.iload_n 1, 1, []), (.aload_n 0, 1, []), (.getfield 18, 3, [11, 0, 1]), (.getfield 334, 3, [2, 0, 0]), (.iload_n 3, 1, []), (.invokestatic 337, 3, [177, 3]), (.iload_n 2, 1, []), (.aload_n 0, 1, []), (.getfield 18, 3, [11, 0, 1]), (.getfield 340, 3, [2, 1, 0]), (.iload_n 3, 1, []), (.invokestatic 337, 3, [177, 3]), (.imul, 1, []), (.istore 5, 2, []), (.iload_n 1, 1, []), (.aload_n 0, 1, []), (.getfield 18, 3, [11, 0, 1]), (.getfield 340, 3, [2, 1, 0]), (.iload_n 3, 1, []), (.invokestatic 337, 3, [177, 3]), (.iload_n 2, 1, []), (.aload_n 0, 1, []), (.getfield 18, 3, [11, 0, 1]), (.getfield 334, 3, [2, 0, 0]), (.iload_n 3, 1, []), (.invokestatic 337, 3, [177, 3]), (.imul, 1, []), (.istore 6, 2, []), (.iload 4, 2, []), (.ifCond .ne 11, 3, [8]), (.iload 5, 2, []), (.iload 6, 2, []), (.invokestatic 256, 3, [0]), (.ireturn, 1, [])]),
  (141, [(.iload 6, 2, []), (.iload 5, 2, []), (.if_icmp .le 7, 3, [9]), (.iconst 1, 1, []), (.goto 4, 3, [10])]),
  (152, [(.iconst 0, 1, []), (.nop, 0, [10])]),
  (153, [(.ireturn, 1, [])])]
abbrev M_X11_panel : Md := (169, 11, 7, (some .int), P_X11_panel)
theorem ok_X11_panel : k_okM M_X11_panel := by unfold k_okM; decide +kernel
def P_X11_unwire : CB := [(0, [(.aload_n 0, 1, []), (.iload_n 1, 1, []), (.invokevirtual 150, 3, [173, 2, 11]), (.ifCond .eq 14, 3, [1]), (.aload_n 0, 1, []), (.getfield 40, 3, [11, 2, 1]), (.iload_n 1, 1, []), (.invokevirtual 343, 3, [49, 2, 3]), (.ifCond .ne 5, 3, [2]), (.nop, 0, [1])]),
  (19, [(.iconst 0, 1, []), (.ireturn, 1, [])]),
  (21, [(.aload_n 0, 1, []), (.getfield 40, 3, [11, 2, 1]), (.iload_n 1, 1, []), (.invokevirtual 346, 3, [46, 2, 3]), (.iconst 1, 1, []), (.ireturn, 1, [])])]
abbrev M_X11_unwire : Md := (170, 11, 2, (some .boolean), P_X11_unwire)
theorem ok_X11_unwire : k_okM M_X11_unwire := by unfold k_okM; decide +kernel
def P_X11_count : CB := [(0, [(.iload_n 1, 1, []), (.tableswitch 87 0 5 #[39, 47, 55, 63, 71, 79], 39, [7, 1, 2, 3, 4, 5, 6])]),
  (40, [(.aload_n 0, 1, []), (.getfield 40, 3, [11, 2, 1]), (.getfield 120, 3, [3, 13, 0]), (.ireturn, 1, [])]),
  (48, [(.aload_n 0, 1, []), (.getfield 40, 3, [11, 2, 1]), (.getfield 141, 3, [3, 14, 0]), (.ireturn, 1, [])]),
  (56, [(.aload_n 0, 1, []), (.getfield 31, 3, [11, 1, 1]), (.getfield 110, 3, [8, 3, 0]), (.ireturn, 1, [])]),
  (64, [(.aload_n 0, 1, []), (.getfield 18, 3, [11, 0, 1]), (.getfield 334, 3, [2, 0, 0]), (.ireturn, 1, [])]),
  (72, [(.aload_n 0, 1, []), (.getfield 18, 3, [11, 0, 1]), (.getfield 340, 3, [2, 1, 0]), (.ireturn, 1, [])]),
  (80, [(.aload_n 0, 1, []), (.getfield 18, 3, [11, 0, 1]), (.getfield 24, 3, [2, 2, 0]), (.ireturn, 1, [])]),
  (88, [(.iconst (-1), 1, []), (.ireturn, 1, [])])]
abbrev M_X11_count : Md := (171, 11, 2, (some .int), P_X11_count)
theorem ok_X11_count : k_okM M_X11_count := by unfold k_okM; decide +kernel
def P_X11_within : CB := [(0, [(.iload_n 1, 1, []), (.iload_n 2, 1, []), (.iload_n 0, 1, []), (.invokestatic 253, 3, [1]), (.invokestatic 256, 3, [0]), (.ireturn, 1, [])])]
abbrev M_X11_within : Md := (172, 11, 3, (some .int), P_X11_within)
theorem ok_X11_within : k_okM M_X11_within := by unfold k_okM; decide +kernel
def P_X11_isNet : CB := [(0, [(.iload_n 1, 1, []), (.ifCond .lt 18, 3, [1]), (.iload_n 1, 1, []), (.aload_n 0, 1, []), (.getfield 40, 3, [11, 2, 1]), (.getfield 141, 3, [3, 14, 0]), (.if_icmp .ge 7, 3, [1]), (.iconst 1, 1, []), (.goto 4, 3, [2])]),
  (19, [(.iconst 0, 1, []), (.nop, 0, [2])]),
  (20, [(.ireturn, 1, [])])]
abbrev M_X11_isNet : Md := (173, 11, 2, (some .boolean), P_X11_isNet)
theorem ok_X11_isNet : k_okM M_X11_isNet := by unfold k_okM; decide +kernel
def P_X11_isLayer : CB := [(0, [(.iload_n 1, 1, []), (.ifCond .lt 18, 3, [1]), (.iload_n 1, 1, []), (.aload_n 0, 1, []), (.getfield 18, 3, [11, 0, 1]), (.getfield 24, 3, [2, 2, 0]), (.if_icmp .ge 7, 3, [1]), (.iconst 1, 1, []), (.goto 4, 3, [2])]),
  (19, [(.iconst 0, 1, []), (.nop, 0, [2])]),
  (20, [(.ireturn, 1, [])])]
abbrev M_X11_isLayer : Md := (174, 11, 2, (some .boolean), P_X11_isLayer)
theorem ok_X11_isLayer : k_okM M_X11_isLayer := by unfold k_okM; decide +kernel
def P_X11_areNets : CB := [(0, [(.iload_n 1, 1, []), (.ifCond .eq 25, 3, [1]), (.iload_n 1, 1, []), (.iconst 1, 1, []), (.aload_n 0, 1, []), (.getfield 40, 3, [11, 2, 1]), (.getfield 141, 3, [3, 14, 0]), (.ishl, 1, []), (.iconst 1, 1, []), (.isub, 1, []), (.iconst (-1), 1, []), (.ixor, 1, []), (.iand, 1, []), (.ifCond .ne 7, 3, [1]), (.iconst 1, 1, []), (.goto 4, 3, [2])]),
  (26, [(.iconst 0, 1, []), (.nop, 0, [2])]),
  (27, [(.ireturn, 1, [])])]
abbrev M_X11_areNets : Md := (175, 11, 2, (some .boolean), P_X11_areNets)
theorem ok_X11_areNets : k_okM M_X11_areNets := by unfold k_okM; decide +kernel
def P_X11_arePressing : CB := [(0, [(.iload_n 0, 1, []), (.iconst 1, 1, []), (.if_icmp .lt 24, 3, [1]), (.iload_n 0, 1, []), (.bipush 20, 2, []), (.if_icmp .gt 18, 3, [1]), (.iload_n 1, 1, []), (.iconst 1, 1, []), (.if_icmp .lt 13, 3, [1]), (.iload_n 1, 1, []), (.bipush 20, 2, []), (.if_icmp .gt 7, 3, [1]), (.iconst 1, 1, []), (.goto 4, 3, [2])]),
  (26, [(.iconst 0, 1, []), (.nop, 0, [2])]),
  (27, [(.ireturn, 1, [])])]
abbrev M_X11_arePressing : Md := (176, 11, 2, (some .boolean), P_X11_arePressing)
theorem ok_X11_arePressing : k_okM M_X11_arePressing := by unfold k_okM; decide +kernel
def P_X11_fitting : CB := [(0, [(.iload_n 1, 1, []), (.iload_n 2, 1, []), (.iadd, 1, []), (.istore_n 3, 1, []), (.iload_n 3, 1, []), (.ifCond .le 8, 3, [1]), (.iload_n 0, 1, []), (.iload_n 1, 1, []), (.if_icmp .ge 5, 3, [2]), (.nop, 0, [1])]),
  (13, [(.iconst 0, 1, []), (.ireturn, 1, [])]),
  (15, [(.iload_n 0, 1, []), (.iload_n 2, 1, []), (.iadd, 1, []), (.iload_n 3, 1, []), (.idiv, 1, []), (.ireturn, 1, [])])]
abbrev M_X11_fitting : Md := (177, 11, 4, (some .int), P_X11_fitting)
theorem ok_X11_fitting : k_okM M_X11_fitting := by unfold k_okM; decide +kernel
def P_X11_splitSheet : CB := [(0, [(.iload_n 2, 1, []), (.aload_n 0, 1, []), (.getfield 18, 3, [11, 0, 1]), (.getfield 340, 3, [2, 1, 0]), (.iload_n 3, 1, []), (.invokestatic 337, 3, [177, 3]), (.istore 5, 2, []), (.iload_n 2, 1, []), (.aload_n 0, 1, []), (.getfield 18, 3, [11, 0, 1]), (.getfield 334, 3, [2, 0, 0]), (.iload_n 3, 1, []), (.invokestatic 337, 3, [177, 3]), (.istore 6, 2, []), (.iload_n 1, 1, []), (.aload_n 0, 1, []), (.getfield 18, 3, [11, 0, 1]), (.getfield 334, 3, [2, 0, 0]), (.iload_n 3, 1, []), (.invokestatic 337, 3, [177, 3]), (.istore 7, 2, []), (.iconst (-1), 1, []), (.istore 8, 2, []), (.iconst 0, 1, []), (.istore 9, 2, []), (.iconst 0, 1, []), (.istore 10, 2, []), (.nop, 0, [1])]),
  (51, [(.iload 10, 2, []), (.iload 7, 2, []), (.if_icmp .gt 64, 3, [3]), (.iload_n 1, 1, []), (.iload 10, 2, []), (.aload_n 0, 1, []), (.getfield 18, 3, [11, 0, 1]), (.getfield 334, 3, [2, 0, 0]), (.iload_n 3, 1, []), (.iadd, 1, []), (.imul, 1, []), (.isub, 1, []), (.istore 11, 2, []), (.iload 10, 2, []), (.iload 5, 2, []), (.imul, 1, []), (.iload 11, 2, []), (.aload_n 0, 1, []), (.getfield 18, 3, [11, 0, 1]), (.getfield 340, 3, [2, 1, 0]), (.iload_n 3, 1, []), (.invokestatic 337, 3, [177, 3]), (.iload 6, 2, []), (.imul, 1, []), (.iadd, 1, []), (.istore 12, 2, []), (.iload 12, 2, []), (.iload 8, 2, []), (.if_icmp .le 11, 3, [2]), (.iload 12, 2, []), (.istore 8, 2, []), (.iload 10, 2, []), (.istore 9, 2, []), (.nop, 0, [2])]),
  (113, [(.iinc 10 1, 3, []), (.goto (-65), 3, [1])]),
  (119, [(.iload 4, 2, []), (.ifCond .eq 8, 3, [4]), (.iload 8, 2, []), (.goto 5, 3, [5])]),
  (129, [(.iload 9, 2, []), (.nop, 0, [5])]),
  (131, [(.ireturn, 1, [])])]
abbrev M_X11_splitSheet : Md := (178, 11, 13, (some .int), P_X11_splitSheet)
theorem ok_X11_splitSheet : k_okM M_X11_splitSheet := by unfold k_okM; decide +kernel
