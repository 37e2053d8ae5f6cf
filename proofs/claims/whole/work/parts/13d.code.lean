/-! ===== blocks of code, printed by wip/gen/genblk.py, and checked ===== -/
/-- WindBoat.go(I)I -/
def mb_147 : wm_B := [(0, [(.aload_n 0, 1, 0, 0, 0), (.getfield 41, 3, 11, 0, 0), (.getfield 178, 3, 4, 2, 0), (.getfield 257, 3, 0, 0, 0), (.ifCond .ne 10, 3, 20, 0, 0), (.aload_n 0, 1, 0, 0, 0), (.bipush (-2), 2, 0, 0, 0), (.invokevirtual 84, 3, 161, 177, 4), (.ireturn, 1, 0, 0, 0)]), (20, [(.iload_n 1, 1, 0, 0, 0), (.invokestatic 350, 3, 168, 1, 4), (.ifCond .ne 10, 3, 34, 0, 0)]), (27, [(.aload_n 0, 1, 0, 0, 0), (.bipush (-3), 2, 0, 0, 0), (.invokevirtual 84, 3, 161, 177, 4), (.ireturn, 1, 0, 0, 0)]), (34, [(.aload_n 0, 1, 0, 0, 0), (.getfield 41, 3, 11, 0, 0), (.getfield 178, 3, 4, 2, 0), (.getfield 358, 3, 0, 2, 0), (.iload_n 1, 1, 0, 0, 0), (.invokestatic 361, 3, 181, 2, 4), (.istore_n 2, 1, 0, 0, 0)]), (49, [(.aload_n 0, 1, 0, 0, 0), (.iload_n 2, 1, 0, 0, 0), (.iload_n 1, 1, 0, 0, 0), (.invokevirtual 364, 3, 164, 178, 4), (.istore_n 3, 1, 0, 0, 0)]), (56, [(.iload_n 3, 1, 0, 0, 0), (.ifCond .eq 22, 3, 79, 0, 0), (.aload_n 0, 1, 0, 0, 0), (.getfield 41, 3, 11, 0, 0), (.getfield 178, 3, 4, 2, 0), (.getfield 274, 3, 0, 4, 0), (.iload_n 2, 1, 0, 0, 0), (.iadd, 1, 0, 0, 0), (.iload_n 3, 1, 0, 0, 0), (.iadd, 1, 0, 0, 0), (.bipush 120, 2, 0, 0, 0), (.if_icmp .le 10, 3, 86, 0, 0)]), (79, [(.aload_n 0, 1, 0, 0, 0), (.bipush (-7), 2, 0, 0, 0), (.invokevirtual 84, 3, 161, 177, 4), (.ireturn, 1, 0, 0, 0)]), (86, [(.aload_n 0, 1, 0, 0, 0), (.invokevirtual 95, 3, 163, 176, 12), (.iload_n 2, 1, 0, 0, 0), (.iload_n 3, 1, 0, 0, 0), (.iadd, 1, 0, 0, 0), (.invokevirtual 355, 3, 52, 65, 0)]), (96, [(.aload_n 0, 1, 0, 0, 0), (.getfield 41, 3, 11, 0, 0), (.getfield 178, 3, 4, 2, 0), (.iload_n 1, 1, 0, 0, 0), (.invokevirtual 367, 3, 4, 1, 0)]), (107, [(.aload_n 0, 1, 0, 0, 0), (.getfield 41, 3, 11, 0, 0), (.getfield 178, 3, 4, 2, 0), (.getfield 274, 3, 0, 4, 0), (.ireturn, 1, 0, 0, 0)])]
def mc_147 : List (Nat × List Bool) := [(20, [true, true, false, false]), (27, [true, false, false, false]), (34, [true, true, false, false]), (49, [true, true, true, false]), (56, [true, true, true, true]), (79, [true, false, false, false]), (86, [true, true, true, true]), (96, [true, true, false, false]), (107, [true, false, false, false])]
set_option maxRecDepth 100000 in
theorem mo_147 : wm_okB 147 (wm_oc 147) (wm_by 147) mb_147 = true := by decide +kernel
/-- WindBoat.raise(I)I -/
def mb_148 : wm_B := [(0, [(.aload_n 0, 1, 0, 0, 0), (.getfield 41, 3, 11, 0, 0), (.getfield 178, 3, 4, 2, 0), (.getfield 257, 3, 0, 0, 0), (.ifCond .ne 10, 3, 20, 0, 0), (.aload_n 0, 1, 0, 0, 0), (.bipush (-2), 2, 0, 0, 0), (.invokevirtual 84, 3, 161, 177, 4), (.ireturn, 1, 0, 0, 0)]), (20, [(.aload_n 0, 1, 0, 0, 0), (.iload_n 1, 1, 0, 0, 0), (.invokevirtual 188, 3, 165, 177, 4), (.ifCond .ne 10, 3, 35, 0, 0)]), (28, [(.aload_n 0, 1, 0, 0, 0), (.bipush (-3), 2, 0, 0, 0), (.invokevirtual 84, 3, 161, 177, 4), (.ireturn, 1, 0, 0, 0)]), (35, [(.iload_n 1, 1, 0, 0, 0), (.aload_n 0, 1, 0, 0, 0), (.getfield 41, 3, 11, 0, 0), (.getfield 178, 3, 4, 2, 0), (.getfield 370, 3, 0, 3, 0), (.if_icmp .eq 18, 3, 64, 0, 0), (.aload_n 0, 1, 0, 0, 0), (.getfield 41, 3, 11, 0, 0), (.getfield 178, 3, 4, 2, 0), (.getfield 200, 3, 0, 9, 0), (.iload_n 1, 1, 0, 0, 0), (.baload, 1, 0, 0, 0), (.ifCond .eq 10, 3, 71, 0, 0)]), (64, [(.aload_n 0, 1, 0, 0, 0), (.bipush (-7), 2, 0, 0, 0), (.invokevirtual 84, 3, 161, 177, 4), (.ireturn, 1, 0, 0, 0)]), (71, [(.aload_n 0, 1, 0, 0, 0), (.getfield 41, 3, 11, 0, 0), (.invokevirtual 277, 3, 49, 64, 4), (.istore_n 2, 1, 0, 0, 0)]), (79, [(.aload_n 0, 1, 0, 0, 0), (.getfield 41, 3, 11, 0, 0), (.getfield 178, 3, 4, 2, 0), (.getfield 274, 3, 0, 4, 0), (.iload_n 2, 1, 0, 0, 0), (.iadd, 1, 0, 0, 0), (.bipush 120, 2, 0, 0, 0), (.if_icmp .le 10, 3, 103, 0, 0), (.aload_n 0, 1, 0, 0, 0), (.bipush (-8), 2, 0, 0, 0), (.invokevirtual 84, 3, 161, 177, 4), (.ireturn, 1, 0, 0, 0)]), (103, [(.aload_n 0, 1, 0, 0, 0), (.invokevirtual 95, 3, 163, 176, 12), (.iload_n 2, 1, 0, 0, 0), (.invokevirtual 355, 3, 52, 65, 0)]), (111, [(.aload_n 0, 1, 0, 0, 0), (.getfield 41, 3, 11, 0, 0), (.getfield 178, 3, 4, 2, 0), (.iload_n 1, 1, 0, 0, 0), (.putfield 370, 3, 0, 3, 0)]), (122, [(.aload_n 0, 1, 0, 0, 0), (.getfield 41, 3, 11, 0, 0), (.getfield 178, 3, 4, 2, 0), (.getfield 274, 3, 0, 4, 0), (.ireturn, 1, 0, 0, 0)])]
def mc_148 : List (Nat × List Bool) := [(20, [true, true, false]), (28, [true, false, false]), (35, [true, true, false]), (64, [true, false, false]), (71, [true, true, false]), (79, [true, true, true]), (103, [true, true, true]), (111, [true, true, false]), (122, [true, false, false])]
set_option maxRecDepth 100000 in
theorem mo_148 : wm_okB 148 (wm_oc 148) (wm_by 148) mb_148 = true := by decide +kernel
/-- WindBoat.mend(I)I -/
def mb_149 : wm_B := [(0, [(.aload_n 0, 1, 0, 0, 0), (.getfield 41, 3, 11, 0, 0), (.getfield 178, 3, 4, 2, 0), (.getfield 257, 3, 0, 0, 0), (.ifCond .ne 10, 3, 20, 0, 0), (.aload_n 0, 1, 0, 0, 0), (.bipush (-2), 2, 0, 0, 0), (.invokevirtual 84, 3, 161, 177, 4), (.ireturn, 1, 0, 0, 0)]), (20, [(.aload_n 0, 1, 0, 0, 0), (.iload_n 1, 1, 0, 0, 0), (.invokevirtual 188, 3, 165, 177, 4), (.ifCond .ne 10, 3, 35, 0, 0)]), (28, [(.aload_n 0, 1, 0, 0, 0), (.bipush (-3), 2, 0, 0, 0), (.invokevirtual 84, 3, 161, 177, 4), (.ireturn, 1, 0, 0, 0)]), (35, [(.aload_n 0, 1, 0, 0, 0), (.getfield 41, 3, 11, 0, 0), (.getfield 178, 3, 4, 2, 0), (.getfield 200, 3, 0, 9, 0), (.iload_n 1, 1, 0, 0, 0), (.baload, 1, 0, 0, 0), (.ifCond .ne 10, 3, 57, 0, 0), (.aload_n 0, 1, 0, 0, 0), (.bipush (-7), 2, 0, 0, 0), (.invokevirtual 84, 3, 161, 177, 4), (.ireturn, 1, 0, 0, 0)]), (57, [(.aload_n 0, 1, 0, 0, 0), (.getfield 41, 3, 11, 0, 0), (.getfield 178, 3, 4, 2, 0), (.getfield 274, 3, 0, 4, 0), (.bipush 12, 2, 0, 0, 0), (.iadd, 1, 0, 0, 0), (.bipush 120, 2, 0, 0, 0), (.if_icmp .le 10, 3, 82, 0, 0), (.aload_n 0, 1, 0, 0, 0), (.bipush (-8), 2, 0, 0, 0), (.invokevirtual 84, 3, 161, 177, 4), (.ireturn, 1, 0, 0, 0)]), (82, [(.aload_n 0, 1, 0, 0, 0), (.invokevirtual 95, 3, 163, 176, 12), (.bipush 12, 2, 0, 0, 0), (.invokevirtual 355, 3, 52, 65, 0)]), (91, [(.aload_n 0, 1, 0, 0, 0), (.getfield 41, 3, 11, 0, 0), (.getfield 178, 3, 4, 2, 0), (.getfield 200, 3, 0, 9, 0), (.iload_n 1, 1, 0, 0, 0), (.iconst 0, 1, 0, 0, 0), (.bastore, 1, 0, 0, 0)]), (104, [(.aload_n 0, 1, 0, 0, 0), (.getfield 41, 3, 11, 0, 0), (.getfield 178, 3, 4, 2, 0), (.getfield 274, 3, 0, 4, 0), (.ireturn, 1, 0, 0, 0)])]
def mc_149 : List (Nat × List Bool) := [(20, [true, true]), (28, [true, false]), (35, [true, true]), (57, [true, true]), (82, [true, true]), (91, [true, true]), (104, [true, false])]
set_option maxRecDepth 100000 in
theorem mo_149 : wm_okB 149 (wm_oc 149) (wm_by 149) mb_149 = true := by decide +kernel
/-- WindBoat.boat(I)I -/
def mb_150 : wm_B := [(0, [(.aload_n 0, 1, 0, 0, 0), (.getfield 41, 3, 11, 0, 0), (.getfield 178, 3, 4, 2, 0), (.getfield 257, 3, 0, 0, 0), (.ifCond .ne 10, 3, 20, 0, 0), (.aload_n 0, 1, 0, 0, 0), (.bipush (-2), 2, 0, 0, 0), (.invokevirtual 84, 3, 161, 177, 4), (.ireturn, 1, 0, 0, 0)]), (20, [(.iload_n 1, 1, 0, 0, 0), (.tableswitch 129 0 7 #[47, 58, 69, 80, 91, 99, 110, 118], 47, 0, 0, 0)]), (68, [(.aload_n 0, 1, 0, 0, 0), (.getfield 41, 3, 11, 0, 0), (.getfield 178, 3, 4, 2, 0), (.getfield 373, 3, 0, 1, 0), (.ireturn, 1, 0, 0, 0)]), (79, [(.aload_n 0, 1, 0, 0, 0), (.getfield 41, 3, 11, 0, 0), (.getfield 178, 3, 4, 2, 0), (.getfield 358, 3, 0, 2, 0), (.ireturn, 1, 0, 0, 0)]), (90, [(.aload_n 0, 1, 0, 0, 0), (.getfield 41, 3, 11, 0, 0), (.getfield 178, 3, 4, 2, 0), (.getfield 370, 3, 0, 3, 0), (.ireturn, 1, 0, 0, 0)]), (101, [(.aload_n 0, 1, 0, 0, 0), (.getfield 41, 3, 11, 0, 0), (.getfield 178, 3, 4, 2, 0), (.getfield 274, 3, 0, 4, 0), (.ireturn, 1, 0, 0, 0)]), (112, [(.aload_n 0, 1, 0, 0, 0), (.getfield 41, 3, 11, 0, 0), (.invokevirtual 277, 3, 49, 64, 4), (.ireturn, 1, 0, 0, 0)]), (120, [(.aload_n 0, 1, 0, 0, 0), (.getfield 41, 3, 11, 0, 0), (.getfield 178, 3, 4, 2, 0), (.getfield 376, 3, 0, 14, 0), (.ireturn, 1, 0, 0, 0)]), (131, [(.aload_n 0, 1, 0, 0, 0), (.getfield 41, 3, 11, 0, 0), (.invokevirtual 379, 3, 48, 64, 4), (.ireturn, 1, 0, 0, 0)]), (139, [(.aload_n 0, 1, 0, 0, 0), (.getfield 41, 3, 11, 0, 0), (.getfield 178, 3, 4, 2, 0), (.invokevirtual 382, 3, 14, 0, 4), (.ireturn, 1, 0, 0, 0)]), (150, [(.aload_n 0, 1, 0, 0, 0), (.bipush (-7), 2, 0, 0, 0), (.invokevirtual 84, 3, 161, 177, 4), (.ireturn, 1, 0, 0, 0)])]
def mc_150 : List (Nat × List Bool) := [(20, [true, true]), (68, [true, false]), (79, [true, false]), (90, [true, false]), (101, [true, false]), (112, [true, false]), (120, [true, false]), (131, [true, false]), (139, [true, false]), (150, [true, false])]
set_option maxRecDepth 100000 in
theorem mo_150 : wm_okB 150 (wm_oc 150) (wm_by 150) mb_150 = true := by decide +kernel
/-- WindBoat.lost(II)I -/
def mb_151 : wm_B := [(0, [(.aload_n 0, 1, 0, 0, 0), (.getfield 41, 3, 11, 0, 0), (.getfield 178, 3, 4, 2, 0), (.getfield 257, 3, 0, 0, 0), (.ifCond .ne 10, 3, 20, 0, 0), (.aload_n 0, 1, 0, 0, 0), (.bipush (-2), 2, 0, 0, 0), (.invokevirtual 84, 3, 161, 177, 4), (.ireturn, 1, 0, 0, 0)]), (20, [(.iload_n 1, 1, 0, 0, 0), (.invokestatic 309, 3, 170, 1, 4), (.ifCond .ne 10, 3, 34, 0, 0)]), (27, [(.aload_n 0, 1, 0, 0, 0), (.bipush (-3), 2, 0, 0, 0), (.invokevirtual 84, 3, 161, 177, 4), (.ireturn, 1, 0, 0, 0)]), (34, [(.iload_n 2, 1, 0, 0, 0), (.iconst 0, 1, 0, 0, 0), (.iconst 4, 1, 0, 0, 0), (.invokestatic 91, 3, 178, 3, 4), (.ifCond .ne 10, 3, 50, 0, 0)]), (43, [(.aload_n 0, 1, 0, 0, 0), (.bipush (-7), 2, 0, 0, 0), (.invokevirtual 84, 3, 161, 177, 4), (.ireturn, 1, 0, 0, 0)]), (50, [(.aload_n 0, 1, 0, 0, 0), (.getfield 44, 3, 11, 4, 0), (.invokevirtual 264, 3, 17, 16, 0)]), (57, [(.aload_n 0, 1, 0, 0, 0), (.getfield 64, 3, 11, 7, 0), (.iload_n 1, 1, 0, 0, 0), (.aload_n 0, 1, 0, 0, 0), (.getfield 41, 3, 11, 0, 0), (.invokevirtual 277, 3, 49, 64, 4), (.invokevirtual 385, 3, 55, 82, 0)]), (72, [(.iload_n 2, 1, 0, 0, 0), (.lookupswitch 48 #[(3, 27), (4, 37)], 27, 0, 0, 0)]), (100, [(.aload_n 0, 1, 0, 0, 0), (.getfield 64, 3, 11, 7, 0), (.getfield 387, 3, 5, 5, 0), (.iconst 0, 1, 0, 0, 0), (.iaload, 1, 0, 0, 0), (.ireturn, 1, 0, 0, 0)]), (110, [(.aload_n 0, 1, 0, 0, 0), (.getfield 64, 3, 11, 7, 0), (.getfield 387, 3, 5, 5, 0), (.bipush 7, 2, 0, 0, 0), (.iaload, 1, 0, 0, 0), (.ireturn, 1, 0, 0, 0)]), (121, [(.aload_n 0, 1, 0, 0, 0), (.getfield 64, 3, 11, 7, 0), (.iconst 1, 1, 0, 0, 0), (.iload_n 2, 1, 0, 0, 0), (.ishl, 1, 0, 0, 0), (.invokevirtual 390, 3, 58, 81, 4), (.ireturn, 1, 0, 0, 0)])]
def mc_151 : List (Nat × List Bool) := [(20, [true, true, true]), (27, [true, false, false]), (34, [true, true, true]), (43, [true, false, false]), (50, [true, true, true]), (57, [true, true, true]), (72, [true, false, true]), (100, [true, false, false]), (110, [true, false, false]), (121, [true, false, true])]
set_option maxRecDepth 100000 in
theorem mo_151 : wm_okB 151 (wm_oc 151) (wm_by 151) mb_151 = true := by decide +kernel
/-- WindBoat.count(I)I -/
def mb_152 : wm_B := [(0, [(.iload_n 1, 1, 0, 0, 0), (.tableswitch 195 0 11 #[63, 74, 85, 96, 107, 118, 129, 137, 148, 159, 170, 181], 63, 0, 0, 0)]), (64, [(.aload_n 0, 1, 0, 0, 0), (.getfield 41, 3, 11, 0, 0), (.getfield 99, 3, 4, 0, 0), (.invokevirtual 393, 3, 79, 112, 4), (.ireturn, 1, 0, 0, 0)]), (75, [(.aload_n 0, 1, 0, 0, 0), (.getfield 41, 3, 11, 0, 0), (.getfield 99, 3, 4, 0, 0), (.invokevirtual 396, 3, 77, 112, 4), (.ireturn, 1, 0, 0, 0)]), (86, [(.aload_n 0, 1, 0, 0, 0), (.getfield 41, 3, 11, 0, 0), (.getfield 178, 3, 4, 2, 0), (.getfield 182, 3, 0, 10, 0), (.ireturn, 1, 0, 0, 0)]), (97, [(.aload_n 0, 1, 0, 0, 0), (.getfield 41, 3, 11, 0, 0), (.getfield 178, 3, 4, 2, 0), (.invokevirtual 399, 3, 7, 0, 4), (.ireturn, 1, 0, 0, 0)]), (108, [(.aload_n 0, 1, 0, 0, 0), (.getfield 41, 3, 11, 0, 0), (.getfield 178, 3, 4, 2, 0), (.getfield 206, 3, 0, 13, 0), (.ireturn, 1, 0, 0, 0)]), (119, [(.aload_n 0, 1, 0, 0, 0), (.getfield 41, 3, 11, 0, 0), (.getfield 227, 3, 4, 3, 0), (.getfield 231, 3, 6, 6, 0), (.ireturn, 1, 0, 0, 0)]), (130, [(.aload_n 0, 1, 0, 0, 0), (.getfield 19, 3, 11, 3, 0), (.getfield 220, 3, 9, 1, 0), (.ireturn, 1, 0, 0, 0)]), (138, [(.aload_n 0, 1, 0, 0, 0), (.getfield 41, 3, 11, 0, 0), (.getfield 152, 3, 4, 1, 0), (.invokevirtual 402, 3, 86, 128, 4), (.ireturn, 1, 0, 0, 0)]), (149, [(.aload_n 0, 1, 0, 0, 0), (.getfield 41, 3, 11, 0, 0), (.getfield 99, 3, 4, 0, 0), (.invokevirtual 318, 3, 78, 112, 4), (.ireturn, 1, 0, 0, 0)]), (160, [(.aload_n 0, 1, 0, 0, 0), (.getfield 41, 3, 11, 0, 0), (.getfield 178, 3, 4, 2, 0), (.getfield 405, 3, 0, 5, 0), (.ireturn, 1, 0, 0, 0)]), (171, [(.aload_n 0, 1, 0, 0, 0), (.getfield 41, 3, 11, 0, 0), (.getfield 99, 3, 4, 0, 0), (.getfield 140, 3, 7, 4, 0), (.ireturn, 1, 0, 0, 0)]), (182, [(.aload_n 0, 1, 0, 0, 0), (.getfield 41, 3, 11, 0, 0), (.getfield 178, 3, 4, 2, 0), (.getfield 257, 3, 0, 0, 0), (.invokestatic 112, 3, 177, 1, 4), (.ireturn, 1, 0, 0, 0)]), (196, [(.aload_n 0, 1, 0, 0, 0), (.bipush (-7), 2, 0, 0, 0), (.invokevirtual 244, 3, 162, 177, 4), (.ireturn, 1, 0, 0, 0)])]
def mc_152 : List (Nat × List Bool) := [(64, [true, false]), (75, [true, false]), (86, [true, false]), (97, [true, false]), (108, [true, false]), (119, [true, false]), (130, [true, false]), (138, [true, false]), (149, [true, false]), (160, [true, false]), (171, [true, false]), (182, [true, false]), (196, [true, false])]
set_option maxRecDepth 100000 in
theorem mo_152 : wm_okB 152 (wm_oc 152) (wm_by 152) mb_152 = true := by decide +kernel
/-- WindBoat.image()I -/
def mb_153 : wm_B := [(0, [(.aload_n 0, 1, 0, 0, 0), (.getfield 12, 3, 11, 1, 0), (.aload_n 0, 1, 0, 0, 0), (.getfield 41, 3, 11, 0, 0), (.invokevirtual 407, 3, 46, 65, 0)]), (11, [(.aload_n 0, 1, 0, 0, 0), (.iconst 1, 1, 0, 0, 0), (.putfield 410, 3, 11, 2, 0)]), (16, [(.aload_n 0, 1, 0, 0, 0), (.getfield 41, 3, 11, 0, 0), (.getfield 178, 3, 4, 2, 0), (.getfield 274, 3, 0, 4, 0), (.ireturn, 1, 0, 0, 0)])]
def mc_153 : List (Nat × List Bool) := [(11, [true]), (16, [true])]
set_option maxRecDepth 100000 in
theorem mo_153 : wm_okB 153 (wm_oc 153) (wm_by 153) mb_153 = true := by decide +kernel
/-- WindBoat.back()I -/
def mb_154 : wm_B := [(0, [(.aload_n 0, 1, 0, 0, 0), (.getfield 410, 3, 11, 2, 0), (.ifCond .ne 10, 3, 14, 0, 0), (.aload_n 0, 1, 0, 0, 0), (.bipush (-2), 2, 0, 0, 0), (.invokevirtual 84, 3, 161, 177, 4), (.ireturn, 1, 0, 0, 0)]), (14, [(.aload_n 0, 1, 0, 0, 0), (.invokevirtual 95, 3, 163, 176, 12), (.aload_n 0, 1, 0, 0, 0), (.getfield 12, 3, 11, 1, 0), (.invokevirtual 407, 3, 46, 65, 0)]), (25, [(.aload_n 0, 1, 0, 0, 0), (.getfield 41, 3, 11, 0, 0), (.getfield 178, 3, 4, 2, 0), (.getfield 274, 3, 0, 4, 0), (.ireturn, 1, 0, 0, 0)])]
def mc_154 : List (Nat × List Bool) := [(14, [true]), (25, [true])]
set_option maxRecDepth 100000 in
theorem mo_154 : wm_okB 154 (wm_oc 154) (wm_by 154) mb_154 = true := by decide +kernel
/-- WindBoat.lay(I)I -/
def mb_155 : wm_B := [(0, [(.iload_n 1, 1, 0, 0, 0), (.ifCond .ge 10, 3, 11, 0, 0), (.aload_n 0, 1, 0, 0, 0), (.bipush (-4), 2, 0, 0, 0), (.invokevirtual 84, 3, 161, 177, 4), (.ireturn, 1, 0, 0, 0)]), (11, [(.iload_n 1, 1, 0, 0, 0), (.bipush 12, 2, 0, 0, 0), (.if_icmp .le 10, 3, 24, 0, 0), (.aload_n 0, 1, 0, 0, 0), (.bipush (-7), 2, 0, 0, 0), (.invokevirtual 84, 3, 161, 177, 4), (.ireturn, 1, 0, 0, 0)]), (24, [(.aload_n 0, 1, 0, 0, 0), (.getfield 68, 3, 11, 8, 0), (.iconst 0, 1, 0, 0, 0), (.invokestatic 413, 3, 343, 2, 0)]), (32, [(.aload_n 0, 1, 0, 0, 0), (.iload_n 1, 1, 0, 0, 0), (.putfield 23, 3, 11, 9, 0)]), (37, [(.iload_n 1, 1, 0, 0, 0), (.ireturn, 1, 0, 0, 0)])]
def mc_155 : List (Nat × List Bool) := [(11, [true, true]), (24, [true, true]), (32, [true, true]), (37, [false, true])]
set_option maxRecDepth 100000 in
theorem mo_155 : wm_okB 155 (wm_oc 155) (wm_by 155) mb_155 = true := by decide +kernel
/-- WindBoat.set(II)I -/
def mb_156 : wm_B := [(0, [(.aload_n 0, 1, 0, 0, 0), (.getfield 23, 3, 11, 9, 0), (.iconst (-1), 1, 0, 0, 0), (.if_icmp .ne 10, 3, 15, 0, 0), (.aload_n 0, 1, 0, 0, 0), (.bipush (-2), 2, 0, 0, 0), (.invokevirtual 244, 3, 162, 177, 4), (.ireturn, 1, 0, 0, 0)]), (15, [(.iload_n 1, 1, 0, 0, 0), (.iconst 0, 1, 0, 0, 0), (.aload_n 0, 1, 0, 0, 0), (.getfield 23, 3, 11, 9, 0), (.iconst 1, 1, 0, 0, 0), (.isub, 1, 0, 0, 0), (.invokestatic 91, 3, 178, 3, 4), (.ifCond .ne 10, 3, 36, 0, 0)]), (29, [(.aload_n 0, 1, 0, 0, 0), (.bipush (-3), 2, 0, 0, 0), (.invokevirtual 244, 3, 162, 177, 4), (.ireturn, 1, 0, 0, 0)]), (36, [(.aload_n 0, 1, 0, 0, 0), (.getfield 68, 3, 11, 8, 0), (.iload_n 1, 1, 0, 0, 0), (.iload_n 2, 1, 0, 0, 0), (.invokestatic 305, 3, 179, 3, 4), (.ireturn, 1, 0, 0, 0)])]
def mc_156 : List (Nat × List Bool) := [(15, [true, true, true]), (29, [true, false, false]), (36, [true, true, true])]
set_option maxRecDepth 100000 in
theorem mo_156 : wm_okB 156 (wm_oc 156) (wm_by 156) mb_156 = true := by decide +kernel
/-- WindBoat.tear()I -/
def mb_157 : wm_B := [(0, [(.aload_n 0, 1, 0, 0, 0), (.getfield 23, 3, 11, 9, 0), (.iconst (-1), 1, 0, 0, 0), (.if_icmp .eq 7, 3, 12, 0, 0), (.iconst 1, 1, 0, 0, 0), (.goto 4, 3, 13, 0, 0)]), (12, [(.iconst 0, 1, 0, 0, 0)]), (13, [(.invokestatic 112, 3, 177, 1, 4), (.istore_n 1, 1, 0, 0, 0)]), (17, [(.aload_n 0, 1, 0, 0, 0), (.iconst (-1), 1, 0, 0, 0), (.putfield 23, 3, 11, 9, 0)]), (22, [(.iload_n 1, 1, 0, 0, 0), (.ireturn, 1, 0, 0, 0)])]
def mc_157 : List (Nat × List Bool) := [(12, [true, false]), (17, [true, true]), (22, [false, true])]
set_option maxRecDepth 100000 in
theorem mo_157 : wm_okB 157 (wm_oc 157) (wm_by 157) mb_157 = true := by decide +kernel
/-- WindBoat.row(I)I -/
def mb_158 : wm_B := [(0, [(.aload_n 0, 1, 0, 0, 0), (.getfield 23, 3, 11, 9, 0), (.iconst (-1), 1, 0, 0, 0), (.if_icmp .ne 10, 3, 15, 0, 0), (.aload_n 0, 1, 0, 0, 0), (.bipush (-2), 2, 0, 0, 0), (.invokevirtual 244, 3, 162, 177, 4), (.ireturn, 1, 0, 0, 0)]), (15, [(.iload_n 1, 1, 0, 0, 0), (.iconst 0, 1, 0, 0, 0), (.aload_n 0, 1, 0, 0, 0), (.getfield 23, 3, 11, 9, 0), (.iconst 1, 1, 0, 0, 0), (.isub, 1, 0, 0, 0), (.invokestatic 91, 3, 178, 3, 4), (.ifCond .ne 10, 3, 36, 0, 0)]), (29, [(.aload_n 0, 1, 0, 0, 0), (.bipush (-3), 2, 0, 0, 0), (.invokevirtual 244, 3, 162, 177, 4), (.ireturn, 1, 0, 0, 0)]), (36, [(.aload_n 0, 1, 0, 0, 0), (.getfield 68, 3, 11, 8, 0), (.iload_n 1, 1, 0, 0, 0), (.iaload, 1, 0, 0, 0), (.ireturn, 1, 0, 0, 0)])]
def mc_158 : List (Nat × List Bool) := [(15, [true, true]), (29, [true, false]), (36, [true, true])]
set_option maxRecDepth 100000 in
theorem mo_158 : wm_okB 158 (wm_oc 158) (wm_by 158) mb_158 = true := by decide +kernel
/-- WindBoat.copy(III)I -/
def mb_159 : wm_B := [(0, [(.aload_n 0, 1, 0, 0, 0), (.getfield 23, 3, 11, 9, 0), (.iconst (-1), 1, 0, 0, 0), (.if_icmp .ne 10, 3, 15, 0, 0), (.aload_n 0, 1, 0, 0, 0), (.bipush (-2), 2, 0, 0, 0), (.invokevirtual 84, 3, 161, 177, 4), (.ireturn, 1, 0, 0, 0)]), (15, [(.iload_n 3, 1, 0, 0, 0), (.ifCond .ge 10, 3, 26, 0, 0), (.aload_n 0, 1, 0, 0, 0), (.bipush (-4), 2, 0, 0, 0), (.invokevirtual 84, 3, 161, 177, 4), (.ireturn, 1, 0, 0, 0)]), (26, [(.iload_n 3, 1, 0, 0, 0), (.aload_n 0, 1, 0, 0, 0), (.getfield 23, 3, 11, 9, 0), (.if_icmp .gt 31, 3, 62, 0, 0), (.iload_n 1, 1, 0, 0, 0), (.iconst 0, 1, 0, 0, 0), (.aload_n 0, 1, 0, 0, 0), (.getfield 23, 3, 11, 9, 0), (.iload_n 3, 1, 0, 0, 0), (.isub, 1, 0, 0, 0), (.invokestatic 91, 3, 178, 3, 4), (.ifCond .eq 17, 3, 62, 0, 0)]), (48, [(.iload_n 2, 1, 0, 0, 0), (.iconst 0, 1, 0, 0, 0), (.aload_n 0, 1, 0, 0, 0), (.getfield 23, 3, 11, 9, 0), (.iload_n 3, 1, 0, 0, 0), (.isub, 1, 0, 0, 0), (.invokestatic 91, 3, 178, 3, 4), (.ifCond .ne 10, 3, 69, 0, 0)]), (62, [(.aload_n 0, 1, 0, 0, 0), (.bipush (-6), 2, 0, 0, 0), (.invokevirtual 84, 3, 161, 177, 4), (.ireturn, 1, 0, 0, 0)]), (69, [(.aload_n 0, 1, 0, 0, 0), (.getfield 68, 3, 11, 8, 0), (.iload_n 1, 1, 0, 0, 0), (.aload_n 0, 1, 0, 0, 0), (.getfield 68, 3, 11, 8, 0), (.iload_n 2, 1, 0, 0, 0), (.iload_n 3, 1, 0, 0, 0), (.invokestatic 419, 3, 0, 0, 20)]), (83, [(.iload_n 3, 1, 0, 0, 0), (.ireturn, 1, 0, 0, 0)])]
def mc_159 : List (Nat × List Bool) := [(15, [true, true, true, true]), (26, [true, true, true, true]), (48, [true, true, true, true]), (62, [true, false, false, false]), (69, [true, true, true, true]), (83, [false, false, false, true])]
set_option maxRecDepth 100000 in
theorem mo_159 : wm_okB 159 (wm_oc 159) (wm_by 159) mb_159 = true := by decide +kernel
/-- WindBoat.status(I)I -/
def mb_160 : wm_B := [(0, [(.iload_n 1, 1, 0, 0, 0), (.bipush (-8), 2, 0, 0, 0), (.bipush (-2), 2, 0, 0, 0), (.invokestatic 91, 3, 178, 3, 4), (.ifCond .eq 13, 3, 21, 0, 0)]), (11, [(.aload_n 0, 1, 0, 0, 0), (.getfield 27, 3, 11, 11, 0), (.iload_n 1, 1, 0, 0, 0), (.ineg, 1, 0, 0, 0), (.iaload, 1, 0, 0, 0), (.goto 9, 3, 27, 0, 0)]), (21, [(.aload_n 0, 1, 0, 0, 0), (.bipush (-7), 2, 0, 0, 0), (.invokevirtual 84, 3, 161, 177, 4)]), (27, [(.ireturn, 1, 0, 0, 0)])]
def mc_160 : List (Nat × List Bool) := [(11, [true, true]), (21, [true, false])]
set_option maxRecDepth 100000 in
theorem mo_160 : wm_okB 160 (wm_oc 160) (wm_by 160) mb_160 = true := by decide +kernel
/-- WindBoat.refuse(I)I -/
def mb_161 : wm_B := [(0, [(.aload_n 0, 1, 0, 0, 0), (.getfield 27, 3, 11, 11, 0), (.iload_n 1, 1, 0, 0, 0), (.ineg, 1, 0, 0, 0), (.dup2, 1, 0, 0, 0), (.iaload, 1, 0, 0, 0), (.iconst 1, 1, 0, 0, 0), (.iadd, 1, 0, 0, 0), (.iastore, 1, 0, 0, 0)]), (11, [(.iload_n 1, 1, 0, 0, 0), (.ireturn, 1, 0, 0, 0)])]
def mc_161 : List (Nat × List Bool) := [(11, [false, true])]
set_option maxRecDepth 100000 in
theorem mo_161 : wm_okB 161 (wm_oc 161) (wm_by 161) mb_161 = true := by decide +kernel
/-- WindBoat.refuseBy0(I)I -/
def mb_162 : wm_B := [(0, [(.aload_n 0, 1, 0, 0, 0), (.iload_n 1, 1, 0, 0, 0), (.invokevirtual 84, 3, 161, 177, 4), (.pop, 1, 0, 0, 0)]), (6, [(.iconst 0, 1, 0, 0, 0), (.ireturn, 1, 0, 0, 0)])]
def mc_162 : List (Nat × List Bool) := [(6, [false, false])]
set_option maxRecDepth 100000 in
theorem mo_162 : wm_okB 162 (wm_oc 162) (wm_by 162) mb_162 = true := by decide +kernel
/-- WindBoat.changing()LWindBoat$Log; -/
def mb_163 : wm_B := [(0, [(.aload_n 0, 1, 0, 0, 0), (.getfield 44, 3, 11, 4, 0), (.invokevirtual 425, 3, 16, 16, 0)]), (7, [(.aload_n 0, 1, 0, 0, 0), (.getfield 57, 3, 11, 6, 0), (.invokevirtual 428, 3, 27, 32, 0)]), (14, [(.aload_n 0, 1, 0, 0, 0), (.getfield 41, 3, 11, 0, 0), (.areturn, 1, 0, 0, 0)])]
def mc_163 : List (Nat × List Bool) := [(7, [true]), (14, [true])]
set_option maxRecDepth 100000 in
theorem mo_163 : wm_okB 163 (wm_oc 163) (wm_by 163) mb_163 = true := by decide +kernel
/-- WindBoat.stepTicksBehind(II)I -/
def mb_164 : wm_B := [(0, [(.aload_n 0, 1, 0, 0, 0), (.getfield 41, 3, 11, 0, 0), (.getfield 178, 3, 4, 2, 0), (.astore_n 3, 1, 0, 0, 0), (.aload_n 3, 1, 0, 0, 0), (.getfield 274, 3, 0, 4, 0), (.iload_n 1, 1, 0, 0, 0), (.iadd, 1, 0, 0, 0), (.istore 4, 2, 0, 0, 0), (.aload_n 3, 1, 0, 0, 0), (.getfield 373, 3, 0, 1, 0), (.iload_n 2, 1, 0, 0, 0), (.invokestatic 429, 3, 182, 2, 4), (.istore 5, 2, 0, 0, 0)]), (26, [(.iload 5, 2, 0, 0, 0), (.iconst (-1), 1, 0, 0, 0), (.if_icmp .eq 22, 3, 51, 0, 0), (.iload 4, 2, 0, 0, 0), (.bipush 120, 2, 0, 0, 0), (.if_icmp .gt 15, 3, 51, 0, 0), (.aload_n 0, 1, 0, 0, 0), (.getfield 41, 3, 11, 0, 0), (.iload 4, 2, 0, 0, 0), (.invokevirtual 432, 3, 51, 65, 4), (.ifCond .eq 5, 3, 53, 0, 0)]), (51, [(.iconst 0, 1, 0, 0, 0), (.ireturn, 1, 0, 0, 0)]), (53, [(.iload 4, 2, 0, 0, 0), (.invokestatic 435, 3, 180, 1, 4), (.istore 6, 2, 0, 0, 0)]), (60, [(.aload_n 0, 1, 0, 0, 0), (.getfield 44, 3, 11, 4, 0), (.aload_n 3, 1, 0, 0, 0), (.getfield 373, 3, 0, 1, 0), (.iload 6, 2, 0, 0, 0), (.aload_n 3, 1, 0, 0, 0), (.getfield 370, 3, 0, 3, 0), (.invokevirtual 438, 3, 18, 19, 0)]), (77, [(.aload_n 0, 1, 0, 0, 0), (.getfield 44, 3, 11, 4, 0), (.iload 5, 2, 0, 0, 0), (.iload 6, 2, 0, 0, 0), (.aload_n 3, 1, 0, 0, 0), (.getfield 370, 3, 0, 3, 0), (.invokevirtual 438, 3, 18, 19, 0)]), (92, [(.aload_n 0, 1, 0, 0, 0), (.getfield 44, 3, 11, 4, 0), (.bipush 6, 2, 0, 0, 0), (.iconst 1, 1, 0, 0, 0), (.invokevirtual 267, 3, 19, 18, 0)]), (102, [(.aload_n 0, 1, 0, 0, 0), (.getfield 44, 3, 11, 4, 0), (.aload_n 3, 1, 0, 0, 0), (.getfield 373, 3, 0, 1, 0), (.iload_n 2, 1, 0, 0, 0), (.aload_n 3, 1, 0, 0, 0), (.getfield 370, 3, 0, 3, 0), (.iload 6, 2, 0, 0, 0), (.invokevirtual 441, 3, 22, 20, 4), (.ireturn, 1, 0, 0, 0)])]
def mc_164 : List (Nat × List Bool) := [(26, [true, false, true, true, true, true, false]), (51, [false, false, false, false, false, false, false]), (53, [true, false, true, true, true, true, false]), (60, [true, false, true, true, false, true, true]), (77, [true, false, true, true, false, true, true]), (92, [true, false, true, true, false, false, true]), (102, [true, false, true, true, false, false, true])]
set_option maxRecDepth 100000 in
theorem mo_164 : wm_okB 164 (wm_oc 164) (wm_by 164) mb_164 = true := by decide +kernel
/-- WindBoat.isSail(I)Z -/
def mb_165 : wm_B := [(0, [(.iload_n 1, 1, 0, 0, 0), (.iconst 0, 1, 0, 0, 0), (.aload_n 0, 1, 0, 0, 0), (.getfield 41, 3, 11, 0, 0), (.getfield 178, 3, 4, 2, 0), (.getfield 182, 3, 0, 10, 0), (.iconst 1, 1, 0, 0, 0), (.isub, 1, 0, 0, 0), (.invokestatic 91, 3, 178, 3, 4), (.ireturn, 1, 0, 0, 0)])]
def mc_165 : List (Nat × List Bool) := []
set_option maxRecDepth 100000 in
theorem mo_165 : wm_okB 165 (wm_oc 165) (wm_by 165) mb_165 = true := by decide +kernel
/-- WindBoat.isAsked(III)Z -/
def mb_166 : wm_B := [(0, [(.iload_n 1, 1, 0, 0, 0), (.iconst 0, 1, 0, 0, 0), (.bipush 29, 2, 0, 0, 0), (.invokestatic 91, 3, 178, 3, 4), (.ifCond .eq 35, 3, 42, 0, 0)]), (10, [(.aload_n 0, 1, 0, 0, 0), (.iload_n 1, 1, 0, 0, 0), (.bipush 10, 2, 0, 0, 0), (.irem, 1, 0, 0, 0), (.invokevirtual 188, 3, 165, 177, 4), (.ifCond .eq 24, 3, 42, 0, 0)]), (21, [(.iload_n 2, 1, 0, 0, 0), (.invokestatic 80, 3, 167, 1, 4), (.ifCond .eq 17, 3, 42, 0, 0)]), (28, [(.iload_n 3, 1, 0, 0, 0), (.iconst 0, 1, 0, 0, 0), (.bipush 11, 2, 0, 0, 0), (.invokestatic 91, 3, 178, 3, 4), (.ifCond .eq 7, 3, 42, 0, 0)]), (38, [(.iconst 1, 1, 0, 0, 0), (.goto 4, 3, 43, 0, 0)]), (42, [(.iconst 0, 1, 0, 0, 0)]), (43, [(.ireturn, 1, 0, 0, 0)])]
def mc_166 : List (Nat × List Bool) := [(10, [true, true, true, true]), (21, [false, false, true, true]), (28, [false, false, false, true]), (38, [false, false, false, false]), (42, [false, false, false, false])]
set_option maxRecDepth 100000 in
theorem mo_166 : wm_okB 166 (wm_oc 166) (wm_by 166) mb_166 = true := by decide +kernel
/-- WindBoat.isCell(I)Z -/
def mb_167 : wm_B := [(0, [(.iload_n 0, 1, 0, 0, 0), (.iconst 0, 1, 0, 0, 0), (.bipush 35, 2, 0, 0, 0), (.invokestatic 91, 3, 178, 3, 4), (.ireturn, 1, 0, 0, 0)])]
def mc_167 : List (Nat × List Bool) := []
set_option maxRecDepth 100000 in
theorem mo_167 : wm_okB 167 (wm_oc 167) (wm_by 167) mb_167 = true := by decide +kernel
/-- WindBoat.isHeading(I)Z -/
def mb_168 : wm_B := [(0, [(.iload_n 0, 1, 0, 0, 0), (.iconst 0, 1, 0, 0, 0), (.bipush 7, 2, 0, 0, 0), (.invokestatic 91, 3, 178, 3, 4), (.ireturn, 1, 0, 0, 0)])]
def mc_168 : List (Nat × List Bool) := []
set_option maxRecDepth 100000 in
theorem mo_168 : wm_okB 168 (wm_oc 168) (wm_by 168) mb_168 = true := by decide +kernel
/-- WindBoat.isWind(I)Z -/
def mb_169 : wm_B := [(0, [(.iload_n 0, 1, 0, 0, 0), (.iconst 0, 1, 0, 0, 0), (.bipush 6, 2, 0, 0, 0), (.invokestatic 91, 3, 178, 3, 4), (.ireturn, 1, 0, 0, 0)])]
def mc_169 : List (Nat × List Bool) := []
set_option maxRecDepth 100000 in
theorem mo_169 : wm_okB 169 (wm_oc 169) (wm_by 169) mb_169 = true := by decide +kernel
/-- WindBoat.isWorld(I)Z -/
def mb_170 : wm_B := [(0, [(.iload_n 0, 1, 0, 0, 0), (.iconst 0, 1, 0, 0, 0), (.iconst 5, 1, 0, 0, 0), (.invokestatic 91, 3, 178, 3, 4), (.ireturn, 1, 0, 0, 0)])]
def mc_170 : List (Nat × List Bool) := []
set_option maxRecDepth 100000 in
theorem mo_170 : wm_okB 170 (wm_oc 170) (wm_by 170) mb_170 = true := by decide +kernel
/-- WindBoat.isWindOfHour(I)Z -/
def mb_171 : wm_B := [(0, [(.iload_n 0, 1, 0, 0, 0), (.ifCond .lt 25, 3, 26, 0, 0), (.iload_n 0, 1, 0, 0, 0), (.bipush 10, 2, 0, 0, 0), (.idiv, 1, 0, 0, 0), (.bipush 12, 2, 0, 0, 0), (.if_icmp .ge 16, 3, 26, 0, 0), (.iload_n 0, 1, 0, 0, 0), (.bipush 10, 2, 0, 0, 0), (.irem, 1, 0, 0, 0), (.bipush 7, 2, 0, 0, 0), (.if_icmp .ge 7, 3, 26, 0, 0)]), (22, [(.iconst 1, 1, 0, 0, 0), (.goto 4, 3, 27, 0, 0)]), (26, [(.iconst 0, 1, 0, 0, 0)]), (27, [(.ireturn, 1, 0, 0, 0)])]
def mc_171 : List (Nat × List Bool) := [(22, [false]), (26, [false])]
set_option maxRecDepth 100000 in
theorem mo_171 : wm_okB 171 (wm_oc 171) (wm_by 171) mb_171 = true := by decide +kernel
/-- WindBoat.isAngle(I)Z -/
def mb_172 : wm_B := [(0, [(.iload_n 0, 1, 0, 0, 0), (.iconst 0, 1, 0, 0, 0), (.iconst 4, 1, 0, 0, 0), (.invokestatic 91, 3, 178, 3, 4), (.ireturn, 1, 0, 0, 0)])]
def mc_172 : List (Nat × List Bool) := []
set_option maxRecDepth 100000 in
theorem mo_172 : wm_okB 172 (wm_oc 172) (wm_by 172) mb_172 = true := by decide +kernel
/-- WindBoat.isBand(I)Z -/
def mb_173 : wm_B := [(0, [(.iload_n 0, 1, 0, 0, 0), (.iconst 0, 1, 0, 0, 0), (.iconst 4, 1, 0, 0, 0), (.invokestatic 91, 3, 178, 3, 4), (.ireturn, 1, 0, 0, 0)])]
def mc_173 : List (Nat × List Bool) := []
set_option maxRecDepth 100000 in
theorem mo_173 : wm_okB 173 (wm_oc 173) (wm_by 173) mb_173 = true := by decide +kernel
/-- WindBoat.isSpeed(I)Z -/
def mb_174 : wm_B := [(0, [(.iload_n 0, 1, 0, 0, 0), (.iconst 0, 1, 0, 0, 0), (.bipush 99, 2, 0, 0, 0), (.invokestatic 91, 3, 178, 3, 4), (.ireturn, 1, 0, 0, 0)])]
def mc_174 : List (Nat × List Bool) := []
set_option maxRecDepth 100000 in
theorem mo_174 : wm_okB 174 (wm_oc 174) (wm_by 174) mb_174 = true := by decide +kernel
/-- WindBoat.isTick(I)Z -/
def mb_175 : wm_B := [(0, [(.iload_n 0, 1, 0, 0, 0), (.iconst 0, 1, 0, 0, 0), (.bipush 120, 2, 0, 0, 0), (.invokestatic 91, 3, 178, 3, 4), (.ireturn, 1, 0, 0, 0)])]
def mc_175 : List (Nat × List Bool) := []
set_option maxRecDepth 100000 in
theorem mo_175 : wm_okB 175 (wm_oc 175) (wm_by 175) mb_175 = true := by decide +kernel
/-- WindBoat.isFlag(I)Z -/
def mb_176 : wm_B := [(0, [(.iload_n 0, 1, 0, 0, 0), (.ifCond .eq 8, 3, 9, 0, 0), (.iload_n 0, 1, 0, 0, 0), (.iconst 1, 1, 0, 0, 0), (.if_icmp .ne 7, 3, 13, 0, 0)]), (9, [(.iconst 1, 1, 0, 0, 0), (.goto 4, 3, 14, 0, 0)]), (13, [(.iconst 0, 1, 0, 0, 0)]), (14, [(.ireturn, 1, 0, 0, 0)])]
def mc_176 : List (Nat × List Bool) := [(9, [false]), (13, [false])]
set_option maxRecDepth 100000 in
theorem mo_176 : wm_okB 176 (wm_oc 176) (wm_by 176) mb_176 = true := by decide +kernel
/-- WindBoat.flag(Z)I -/
def mb_177 : wm_B := [(0, [(.iload_n 0, 1, 0, 0, 0), (.ifCond .eq 7, 3, 8, 0, 0), (.iconst 1, 1, 0, 0, 0), (.goto 4, 3, 9, 0, 0)]), (8, [(.iconst 0, 1, 0, 0, 0)]), (9, [(.ireturn, 1, 0, 0, 0)])]
def mc_177 : List (Nat × List Bool) := [(8, [false])]
set_option maxRecDepth 100000 in
theorem mo_177 : wm_okB 177 (wm_oc 177) (wm_by 177) mb_177 = true := by decide +kernel
/-- WindBoat.within(III)Z -/
def mb_178 : wm_B := [(0, [(.iload_n 0, 1, 0, 0, 0), (.iload_n 1, 1, 0, 0, 0), (.if_icmp .lt 12, 3, 14, 0, 0), (.iload_n 0, 1, 0, 0, 0), (.iload_n 2, 1, 0, 0, 0), (.if_icmp .gt 7, 3, 14, 0, 0), (.iconst 1, 1, 0, 0, 0), (.goto 4, 3, 15, 0, 0)]), (14, [(.iconst 0, 1, 0, 0, 0)]), (15, [(.ireturn, 1, 0, 0, 0)])]
def mc_178 : List (Nat × List Bool) := [(14, [false, false, false])]
set_option maxRecDepth 100000 in
theorem mo_178 : wm_okB 178 (wm_oc 178) (wm_by 178) mb_178 = true := by decide +kernel
/-- WindBoat.exchange([III)I -/
def mb_179 : wm_B := [(0, [(.aload_n 0, 1, 0, 0, 0), (.iload_n 1, 1, 0, 0, 0), (.iaload, 1, 0, 0, 0), (.istore_n 3, 1, 0, 0, 0), (.aload_n 0, 1, 0, 0, 0), (.iload_n 1, 1, 0, 0, 0), (.iload_n 2, 1, 0, 0, 0), (.iastore, 1, 0, 0, 0)]), (8, [(.iload_n 3, 1, 0, 0, 0), (.ireturn, 1, 0, 0, 0)])]
def mc_179 : List (Nat × List Bool) := [(8, [false, false, false, true])]
set_option maxRecDepth 100000 in
theorem mo_179 : wm_okB 179 (wm_oc 179) (wm_by 179) mb_179 = true := by decide +kernel
/-- WindBoat.hourOf(I)I -/
def mb_180 : wm_B := [(0, [(.iload_n 0, 1, 0, 0, 0), (.bipush 120, 2, 0, 0, 0), (.if_icmp .ge 10, 3, 13, 0, 0), (.iload_n 0, 1, 0, 0, 0), (.bipush 10, 2, 0, 0, 0), (.idiv, 1, 0, 0, 0), (.goto 5, 3, 15, 0, 0)]), (13, [(.bipush 11, 2, 0, 0, 0)]), (15, [(.ireturn, 1, 0, 0, 0)])]
def mc_180 : List (Nat × List Bool) := [(13, [false])]
set_option maxRecDepth 100000 in
theorem mo_180 : wm_okB 180 (wm_oc 180) (wm_by 180) mb_180 = true := by decide +kernel
/-- WindBoat.apart(II)I -/
def mb_181 : wm_B := [(0, [(.iload_n 0, 1, 0, 0, 0), (.iload_n 1, 1, 0, 0, 0), (.isub, 1, 0, 0, 0), (.invokestatic 444, 3, 0, 0, 23), (.istore_n 2, 1, 0, 0, 0)]), (7, [(.iload_n 2, 1, 0, 0, 0), (.bipush 8, 2, 0, 0, 0), (.iload_n 2, 1, 0, 0, 0), (.isub, 1, 0, 0, 0), (.invokestatic 449, 3, 0, 0, 22), (.ireturn, 1, 0, 0, 0)])]
def mc_181 : List (Nat × List Bool) := [(7, [false, false, true])]
set_option maxRecDepth 100000 in
theorem mo_181 : wm_okB 181 (wm_oc 181) (wm_by 181) mb_181 = true := by decide +kernel
/-- WindBoat.beside(II)I -/
def mb_182 : wm_B := [(0, [(.iload_n 0, 1, 0, 0, 0), (.bipush 6, 2, 0, 0, 0), (.idiv, 1, 0, 0, 0), (.istore_n 2, 1, 0, 0, 0), (.iload_n 0, 1, 0, 0, 0), (.bipush 6, 2, 0, 0, 0), (.irem, 1, 0, 0, 0), (.istore_n 3, 1, 0, 0, 0), (.iload_n 1, 1, 0, 0, 0), (.bipush 7, 2, 0, 0, 0), (.if_icmp .eq 8, 3, 21, 0, 0), (.iload_n 1, 1, 0, 0, 0), (.iconst 1, 1, 0, 0, 0), (.if_icmp .gt 9, 3, 27, 0, 0)]), (21, [(.iinc 2 (-1), 3, 0, 0, 0), (.goto 16, 3, 40, 0, 0)]), (27, [(.iload_n 1, 1, 0, 0, 0), (.iconst 3, 1, 0, 0, 0), (.if_icmp .lt 11, 3, 40, 0, 0), (.iload_n 1, 1, 0, 0, 0), (.iconst 5, 1, 0, 0, 0), (.if_icmp .gt 6, 3, 40, 0, 0), (.iinc 2 1, 3, 0, 0, 0)]), (40, [(.iload_n 1, 1, 0, 0, 0), (.iconst 1, 1, 0, 0, 0), (.if_icmp .lt 14, 3, 56, 0, 0), (.iload_n 1, 1, 0, 0, 0), (.iconst 3, 1, 0, 0, 0), (.if_icmp .gt 9, 3, 56, 0, 0), (.iinc 3 1, 3, 0, 0, 0), (.goto 11, 3, 64, 0, 0)]), (56, [(.iload_n 1, 1, 0, 0, 0), (.iconst 5, 1, 0, 0, 0), (.if_icmp .lt 6, 3, 64, 0, 0), (.iinc 3 (-1), 3, 0, 0, 0)]), (64, [(.iload_n 2, 1, 0, 0, 0), (.iconst 0, 1, 0, 0, 0), (.iconst 5, 1, 0, 0, 0), (.invokestatic 91, 3, 178, 3, 4), (.ifCond .eq 16, 3, 86, 0, 0)]), (73, [(.iload_n 3, 1, 0, 0, 0), (.iconst 0, 1, 0, 0, 0), (.iconst 5, 1, 0, 0, 0), (.invokestatic 91, 3, 178, 3, 4), (.ifCond .eq 7, 3, 86, 0, 0)]), (82, [(.iconst 1, 1, 0, 0, 0), (.goto 4, 3, 87, 0, 0)]), (86, [(.iconst 0, 1, 0, 0, 0)]), (87, [(.istore 4, 2, 0, 0, 0), (.iload 4, 2, 0, 0, 0), (.ifCond .eq 12, 3, 103, 0, 0), (.iload_n 2, 1, 0, 0, 0), (.bipush 6, 2, 0, 0, 0), (.imul, 1, 0, 0, 0), (.iload_n 3, 1, 0, 0, 0), (.iadd, 1, 0, 0, 0), (.goto 4, 3, 104, 0, 0)]), (103, [(.iconst (-1), 1, 0, 0, 0)]), (104, [(.ireturn, 1, 0, 0, 0)])]
def mc_182 : List (Nat × List Bool) := [(21, [false, true, true, true, false]), (27, [false, true, true, true, false]), (40, [false, true, true, true, false]), (56, [false, true, true, true, false]), (64, [false, false, true, true, false]), (73, [false, false, true, true, false]), (82, [false, false, true, true, false]), (86, [false, false, true, true, false]), (103, [false, false, false, false, false])]
set_option maxRecDepth 100000 in
theorem mo_182 : wm_okB 182 (wm_oc 182) (wm_by 182) mb_182 = true := by decide +kernel
/-- WindBoat.stateOf(III)I -/
def mb_183 : wm_B := [(0, [(.iconst 3, 1, 0, 0, 0), (.bipush 8, 2, 0, 0, 0), (.iload_n 0, 1, 0, 0, 0), (.imul, 1, 0, 0, 0), (.iload_n 1, 1, 0, 0, 0), (.iadd, 1, 0, 0, 0), (.imul, 1, 0, 0, 0), (.iload_n 2, 1, 0, 0, 0), (.iadd, 1, 0, 0, 0), (.ireturn, 1, 0, 0, 0)])]
def mc_183 : List (Nat × List Bool) := []
set_option maxRecDepth 100000 in
theorem mo_183 : wm_okB 183 (wm_oc 183) (wm_by 183) mb_183 = true := by decide +kernel
/-- WindBoatModel.isIn(III)Z -/
def mb_184 : wm_B := [(0, [(.iload_n 0, 1, 0, 0, 0), (.iload_n 1, 1, 0, 0, 0), (.if_icmp .lt 12, 3, 14, 0, 0), (.iload_n 0, 1, 0, 0, 0), (.iload_n 2, 1, 0, 0, 0), (.if_icmp .gt 7, 3, 14, 0, 0), (.iconst 1, 1, 0, 0, 0), (.goto 4, 3, 15, 0, 0)]), (14, [(.iconst 0, 1, 0, 0, 0)]), (15, [(.ireturn, 1, 0, 0, 0)])]
def mc_184 : List (Nat × List Bool) := [(14, [false, false, false])]
set_option maxRecDepth 100000 in
theorem mo_184 : wm_okB 184 (wm_oc 184) (wm_by 184) mb_184 = true := by decide +kernel
/-- WindBoatModel.refuse(I)I -/
def mb_185 : wm_B := [(0, [(.aload_n 0, 1, 0, 0, 0), (.getfield 7, 3, 12, 1, 0), (.iload_n 1, 1, 0, 0, 0), (.ineg, 1, 0, 0, 0), (.dup2, 1, 0, 0, 0), (.iaload, 1, 0, 0, 0), (.iconst 1, 1, 0, 0, 0), (.iadd, 1, 0, 0, 0), (.iastore, 1, 0, 0, 0)]), (11, [(.iload_n 1, 1, 0, 0, 0), (.ireturn, 1, 0, 0, 0)])]
def mc_185 : List (Nat × List Bool) := [(11, [false, true])]
set_option maxRecDepth 100000 in
theorem mo_185 : wm_okB 185 (wm_oc 185) (wm_by 185) mb_185 = true := by decide +kernel
/-- WindBoatModel.hush(I)I -/
def mb_186 : wm_B := [(0, [(.aload_n 0, 1, 0, 0, 0), (.getfield 7, 3, 12, 1, 0), (.iload_n 1, 1, 0, 0, 0), (.ineg, 1, 0, 0, 0), (.dup2, 1, 0, 0, 0), (.iaload, 1, 0, 0, 0), (.iconst 1, 1, 0, 0, 0), (.iadd, 1, 0, 0, 0), (.iastore, 1, 0, 0, 0)]), (11, [(.iconst 0, 1, 0, 0, 0), (.ireturn, 1, 0, 0, 0)])]
def mc_186 : List (Nat × List Bool) := [(11, [false, false])]
set_option maxRecDepth 100000 in
theorem mo_186 : wm_okB 186 (wm_oc 186) (wm_by 186) mb_186 = true := by decide +kernel
/-- WindBoatModel.g(I)I -/
def mb_188 : wm_B := [(0, [(.aload_n 0, 1, 0, 0, 0), (.getfield 17, 3, 12, 2, 0), (.sipush 2040, 3, 0, 0, 0), (.iload_n 1, 1, 0, 0, 0), (.iadd, 1, 0, 0, 0), (.iaload, 1, 0, 0, 0), (.ireturn, 1, 0, 0, 0)])]
def mc_188 : List (Nat × List Bool) := []
set_option maxRecDepth 100000 in
theorem mo_188 : wm_okB 188 (wm_oc 188) (wm_by 188) mb_188 = true := by decide +kernel
/-- WindBoatModel.isCell(I)Z -/
def mb_189 : wm_B := [(0, [(.iload_n 0, 1, 0, 0, 0), (.iconst 0, 1, 0, 0, 0), (.bipush 35, 2, 0, 0, 0), (.invokestatic 81, 3, 184, 3, 4), (.ireturn, 1, 0, 0, 0)])]
def mc_189 : List (Nat × List Bool) := []
set_option maxRecDepth 100000 in
theorem mo_189 : wm_okB 189 (wm_oc 189) (wm_by 189) mb_189 = true := by decide +kernel
/-- WindBoatModel.isHour(I)Z -/
def mb_190 : wm_B := [(0, [(.iload_n 0, 1, 0, 0, 0), (.iconst 0, 1, 0, 0, 0), (.bipush 11, 2, 0, 0, 0), (.invokestatic 81, 3, 184, 3, 4), (.ireturn, 1, 0, 0, 0)])]
def mc_190 : List (Nat × List Bool) := []
set_option maxRecDepth 100000 in
theorem mo_190 : wm_okB 190 (wm_oc 190) (wm_by 190) mb_190 = true := by decide +kernel
/-- WindBoatModel.isSail(I)Z -/
def mb_191 : wm_B := [(0, [(.iload_n 1, 1, 0, 0, 0), (.iconst 0, 1, 0, 0, 0), (.aload_n 0, 1, 0, 0, 0), (.iconst 0, 1, 0, 0, 0), (.invokevirtual 85, 3, 188, 193, 4), (.iconst 1, 1, 0, 0, 0), (.isub, 1, 0, 0, 0), (.invokestatic 81, 3, 184, 3, 4), (.ireturn, 1, 0, 0, 0)])]
def mc_191 : List (Nat × List Bool) := []
set_option maxRecDepth 100000 in
theorem mo_191 : wm_okB 191 (wm_oc 191) (wm_by 191) mb_191 = true := by decide +kernel
