/-! Code that touches the constant texts: printed by wip/gen/genstr.py. -/
def mb_325 : wm_B := [(0, [(.getstatic 38, 3, 3, 0, 0)]), (3, [(.ifCond .eq 10, 3, 13, 0, 0)]), (6, [(.aload_n 0, 1, 0, 0, 0)]), (7, [(.getfield 15, 3, 1, 0, 101)]), (10, [(.goto 4, 3, 14, 0, 0)]), (13, [(.iconst 1, 1, 0, 0, 0)]), (14, [(.ireturn, 1, 0, 0, 0)])]
def mc_325 : List (Nat × List Bool) := [(13, [false])]
set_option maxRecDepth 100000 in
theorem mo_325 : wn_okB 325 (wm_oc 325) (wm_by 325) mb_325 = true := by decide +kernel
-- java/lang/String.coder()B
set_option maxRecDepth 100000 in
set_option maxHeartbeats 8000000 in
theorem f_325_0 (μ : wm_M) (Q : Option Value → wm_M → Prop) (h : (((1 : Int32) = (0 : Int32) → wm_Wp 0 325 13 [.null] μ Q) ∧ (¬ (1 : Int32) = (0 : Int32) → ((narrow .byte (.int (0 : Int32)) = .int (0 : Int32)) ∧ Q (some (.int (0 : Int32))) μ)))) : wm_Ok 0 325 [.ref 2000] μ Q := wm_ent (nL := 1) (l := [.ref 2000]) (by decide +kernel) (by decide +kernel) (by decide +kernel) rfl rfl (wn_vc mo_325 (rt := some .byte) (by decide +kernel) mc_325 88 h)
-- java/lang/String.coder()B, the place 13
set_option maxRecDepth 100000 in
set_option maxHeartbeats 8000000 in
theorem f_325_13_0 (μ : wm_M) (Q : Option Value → wm_M → Prop) (h : ((narrow .byte (.int (1 : Int32)) = .int (1 : Int32)) ∧ Q (some (.int (1 : Int32))) μ)) : wm_Wp 0 325 13 [.null] μ Q := wn_vc mo_325 (rt := some .byte) (by decide +kernel) mc_325 88 h
-- java/lang/String.coder()B
set_option maxRecDepth 100000 in
set_option maxHeartbeats 8000000 in
theorem f_325_1 (μ : wm_M) (Q : Option Value → wm_M → Prop) (h : (((1 : Int32) = (0 : Int32) → wm_Wp 0 325 13 [.null] μ Q) ∧ (¬ (1 : Int32) = (0 : Int32) → ((narrow .byte (.int (0 : Int32)) = .int (0 : Int32)) ∧ Q (some (.int (0 : Int32))) μ)))) : wm_Ok 0 325 [.ref 2001] μ Q := wm_ent (nL := 1) (l := [.ref 2001]) (by decide +kernel) (by decide +kernel) (by decide +kernel) rfl rfl (wn_vc mo_325 (rt := some .byte) (by decide +kernel) mc_325 88 h)
-- java/lang/String.coder()B, the place 13
set_option maxRecDepth 100000 in
set_option maxHeartbeats 8000000 in
theorem f_325_13_1 (μ : wm_M) (Q : Option Value → wm_M → Prop) (h : ((narrow .byte (.int (1 : Int32)) = .int (1 : Int32)) ∧ Q (some (.int (1 : Int32))) μ)) : wm_Wp 0 325 13 [.null] μ Q := wn_vc mo_325 (rt := some .byte) (by decide +kernel) mc_325 88 h
def mb_326 : wm_B := [(0, [(.getstatic 38, 3, 3, 0, 0)]), (3, [(.ifCond .eq 14, 3, 17, 0, 0)]), (6, [(.aload_n 0, 1, 0, 0, 0)]), (7, [(.getfield 15, 3, 1, 0, 101)]), (10, [(.ifCond .ne 7, 3, 17, 0, 0)]), (13, [(.iconst 1, 1, 0, 0, 0)]), (14, [(.goto 4, 3, 18, 0, 0)]), (17, [(.iconst 0, 1, 0, 0, 0)]), (18, [(.ireturn, 1, 0, 0, 0)])]
def mc_326 : List (Nat × List Bool) := [(17, [false])]
set_option maxRecDepth 100000 in
theorem mo_326 : wn_okB 326 (wm_oc 326) (wm_by 326) mb_326 = true := by decide +kernel
-- java/lang/String.isLatin1()Z
set_option maxRecDepth 100000 in
set_option maxHeartbeats 8000000 in
theorem f_326_0 (μ : wm_M) (Q : Option Value → wm_M → Prop) (h : (((1 : Int32) = (0 : Int32) → wm_Wp 0 326 17 [.null] μ Q) ∧ (¬ (1 : Int32) = (0 : Int32) → (((0 : Int32) = (0 : Int32) → (((1 : Int32) = 0 ∨ (1 : Int32) = 1) ∧ Q (some (.int (1 : Int32))) μ)) ∧ (¬ (0 : Int32) = (0 : Int32) → wm_Wp 0 326 17 [.null] μ Q))))) : wm_Ok 0 326 [.ref 2000] μ Q := wm_ent (nL := 1) (l := [.ref 2000]) (by decide +kernel) (by decide +kernel) (by decide +kernel) rfl rfl (wn_vc mo_326 (rt := some .boolean) (by decide +kernel) mc_326 96 h)
-- java/lang/String.isLatin1()Z, the place 17
set_option maxRecDepth 100000 in
set_option maxHeartbeats 8000000 in
theorem f_326_17_0 (μ : wm_M) (Q : Option Value → wm_M → Prop) (h : (((0 : Int32) = 0 ∨ (0 : Int32) = 1) ∧ Q (some (.int (0 : Int32))) μ)) : wm_Wp 0 326 17 [.null] μ Q := wn_vc mo_326 (rt := some .boolean) (by decide +kernel) mc_326 96 h
-- java/lang/String.isLatin1()Z
set_option maxRecDepth 100000 in
set_option maxHeartbeats 8000000 in
theorem f_326_1 (μ : wm_M) (Q : Option Value → wm_M → Prop) (h : (((1 : Int32) = (0 : Int32) → wm_Wp 0 326 17 [.null] μ Q) ∧ (¬ (1 : Int32) = (0 : Int32) → (((0 : Int32) = (0 : Int32) → (((1 : Int32) = 0 ∨ (1 : Int32) = 1) ∧ Q (some (.int (1 : Int32))) μ)) ∧ (¬ (0 : Int32) = (0 : Int32) → wm_Wp 0 326 17 [.null] μ Q))))) : wm_Ok 0 326 [.ref 2001] μ Q := wm_ent (nL := 1) (l := [.ref 2001]) (by decide +kernel) (by decide +kernel) (by decide +kernel) rfl rfl (wn_vc mo_326 (rt := some .boolean) (by decide +kernel) mc_326 96 h)
-- java/lang/String.isLatin1()Z, the place 17
set_option maxRecDepth 100000 in
set_option maxHeartbeats 8000000 in
theorem f_326_17_1 (μ : wm_M) (Q : Option Value → wm_M → Prop) (h : (((0 : Int32) = 0 ∨ (0 : Int32) = 1) ∧ Q (some (.int (0 : Int32))) μ)) : wm_Wp 0 326 17 [.null] μ Q := wn_vc mo_326 (rt := some .boolean) (by decide +kernel) mc_326 96 h
def mb_321 : wm_B := [(0, [(.aload_n 0, 1, 0, 0, 0)]), (1, [(.getfield 9, 3, 0, 0, 101)]), (4, [(.arraylength, 1, 0, 0, 104)]), (5, [(.aload_n 0, 1, 0, 0, 0)]), (6, [(.invokevirtual 335, 3, 325, 256, 1004)]), (9, [(.ishr, 1, 0, 0, 0)]), (10, [(.ireturn, 1, 0, 0, 0)])]
def mc_321 : List (Nat × List Bool) := []
set_option maxRecDepth 100000 in
theorem mo_321 : wn_okB 321 (wm_oc 321) (wm_by 321) mb_321 = true := by decide +kernel
-- java/lang/String.length()I
set_option maxRecDepth 100000 in
set_option maxHeartbeats 8000000 in
theorem f_321_0 (μ : wm_M) (Q : Option Value → wm_M → Prop) (h : wm_OkI 0 325 [.ref 2000] μ (fun r2 μ1 => Q (some (.int ((Int32.ofNat 63) >>> (r2 &&& 31)))) μ1)) : wm_Ok 0 321 [.ref 2000] μ Q := wm_ent (nL := 1) (l := [.ref 2000]) (by decide +kernel) (by decide +kernel) (by decide +kernel) rfl rfl (wn_vc mo_321 (rt := some .int) (by decide +kernel) mc_321 88 h)
-- java/lang/String.length()I
set_option maxRecDepth 100000 in
set_option maxHeartbeats 8000000 in
theorem f_321_1 (μ : wm_M) (Q : Option Value → wm_M → Prop) (h : wm_OkI 0 325 [.ref 2001] μ (fun r2 μ1 => Q (some (.int ((Int32.ofNat 10) >>> (r2 &&& 31)))) μ1)) : wm_Ok 0 321 [.ref 2001] μ Q := wm_ent (nL := 1) (l := [.ref 2001]) (by decide +kernel) (by decide +kernel) (by decide +kernel) rfl rfl (wn_vc mo_321 (rt := some .int) (by decide +kernel) mc_321 88 h)
def mb_330 : wm_B := [(0, [(.iload_n 0, 1, 0, 0, 0)]), (1, [(.ifCond .lt 14, 3, 15, 0, 0)]), (4, [(.iload_n 0, 1, 0, 0, 0)]), (5, [(.sipush 255, 3, 0, 0, 0)]), (8, [(.if_icmp .gt 7, 3, 15, 0, 0)]), (11, [(.iconst 1, 1, 0, 0, 0)]), (12, [(.goto 4, 3, 16, 0, 0)]), (15, [(.iconst 0, 1, 0, 0, 0)]), (16, [(.ireturn, 1, 0, 0, 0)])]
def mc_330 : List (Nat × List Bool) := [(15, [false])]
set_option maxRecDepth 100000 in
theorem mo_330 : wn_okB 330 (wm_oc 330) (wm_by 330) mb_330 = true := by decide +kernel
-- java/lang/StringLatin1.canEncode(I)Z
set_option maxRecDepth 100000 in
set_option maxHeartbeats 8000000 in
theorem f_330 (a0 : Int32) (μ : wm_M) (Q : Option Value → wm_M → Prop) (h : ((a0 < (0 : Int32) → wm_Wp 0 330 15 [.null] μ Q) ∧ (¬ a0 < (0 : Int32) → (((255 : Int32) < a0 → wm_Wp 0 330 15 [.null] μ Q) ∧ (¬ (255 : Int32) < a0 → (((1 : Int32) = 0 ∨ (1 : Int32) = 1) ∧ Q (some (.int (1 : Int32))) μ)))))) : wm_Ok 0 330 [.int a0] μ Q := wm_ent (nL := 1) (l := [.int a0]) (by decide +kernel) (by decide +kernel) (by decide +kernel) rfl rfl (wn_vc mo_330 (rt := some .boolean) (by decide +kernel) mc_330 96 h)
-- java/lang/StringLatin1.canEncode(I)Z, the place 15
set_option maxRecDepth 100000 in
set_option maxHeartbeats 8000000 in
theorem f_330_15 (μ : wm_M) (Q : Option Value → wm_M → Prop) (h : (((0 : Int32) = 0 ∨ (0 : Int32) = 1) ∧ Q (some (.int (0 : Int32))) μ)) : wm_Wp 0 330 15 [.null] μ Q := wn_vc mo_330 (rt := some .boolean) (by decide +kernel) mc_330 96 h
def mb_332 : wm_B := [(0, [(.iload_n 1, 1, 0, 0, 0)]), (1, [(.i2b, 1, 0, 0, 105)]), (2, [(.istore 4, 2, 0, 0, 0)]), (4, [(.iload_n 2, 1, 0, 0, 0)]), (5, [(.istore 5, 2, 0, 0, 0)]), (7, [(.iload 5, 2, 0, 0, 0)]), (9, [(.iload_n 3, 1, 0, 0, 0)]), (10, [(.if_icmp .ge 21, 3, 31, 0, 0)]), (13, [(.aload_n 0, 1, 0, 0, 0)]), (14, [(.iload 5, 2, 0, 0, 0)]), (16, [(.baload, 1, 0, 0, 103)]), (17, [(.iload 4, 2, 0, 0, 0)]), (19, [(.if_icmp .ne 6, 3, 25, 0, 0)]), (22, [(.iload 5, 2, 0, 0, 0)]), (24, [(.ireturn, 1, 0, 0, 0)]), (25, [(.iinc 5 1, 3, 0, 0, 0)]), (28, [(.goto (-21), 3, 7, 0, 0)]), (31, [(.iconst (-1), 1, 0, 0, 0)]), (32, [(.ireturn, 1, 0, 0, 0)])]
def mc_332 : List (Nat × List Bool) := [(7, [true, false, false, true, true, true]), (25, [true, false, false, true, true, true]), (31, [false, false, false, false, false, false])]
set_option maxRecDepth 100000 in
theorem mo_332 : wn_okB 332 (wm_oc 332) (wm_by 332) mb_332 = true := by decide +kernel
-- java/lang/StringLatin1.indexOfChar([BIII)I
set_option maxRecDepth 100000 in
set_option maxHeartbeats 8000000 in
theorem f_332_1 (a1 : Int32) (a2 : Int32) (a3 : Int32) (μ : wm_M) (Q : Option Value → wm_M → Prop) (h : wm_Wp 0 332 7 [.ref 2011, .null, .null, .int a3, .int (a1).toInt8.toInt32, .int a2] μ Q) : wm_Ok 0 332 [.ref 2011, .int a1, .int a2, .int a3] μ Q := wm_ent (nL := 6) (l := [.ref 2011, .int a1, .int a2, .int a3, .null, .null]) (by decide +kernel) (by decide +kernel) (by decide +kernel) rfl rfl (wn_vc mo_332 (rt := some .int) (by decide +kernel) mc_332 136 h)
-- java/lang/StringLatin1.indexOfChar([BIII)I, the place 7
set_option maxRecDepth 100000 in
set_option maxHeartbeats 8000000 in
theorem f_332_7_1 (x3 : Int32) (x4 : Int32) (x5 : Int32) (μ : wm_M) (Q : Option Value → wm_M → Prop) (h : ((x3 ≤ x5 → wm_Wp 0 332 31 [.null, .null, .null, .null, .null, .null] μ Q) ∧ (¬ x3 ≤ x5 → (vp_in x5 10 ∧ (((wm_S2.getD (x5).toNatClampNeg 0) = x4 → Q (some (.int x5)) μ) ∧ (¬ (wm_S2.getD (x5).toNatClampNeg 0) = x4 → wm_Wp 0 332 25 [.ref 2011, .null, .null, .int x3, .int x4, .int x5] μ Q)))))) : wm_Wp 0 332 7 [.ref 2011, .null, .null, .int x3, .int x4, .int x5] μ Q := wn_vc mo_332 (rt := some .int) (by decide +kernel) mc_332 136 h
-- java/lang/StringLatin1.indexOfChar([BIII)I, the place 25
set_option maxRecDepth 100000 in
set_option maxHeartbeats 8000000 in
theorem f_332_25_1 (x3 : Int32) (x4 : Int32) (x5 : Int32) (μ : wm_M) (Q : Option Value → wm_M → Prop) (h : wm_Wp 0 332 7 [.ref 2011, .null, .null, .int x3, .int x4, .int (x5 + (1 : Int32))] μ Q) : wm_Wp 0 332 25 [.ref 2011, .null, .null, .int x3, .int x4, .int x5] μ Q := wn_vc mo_332 (rt := some .int) (by decide +kernel) mc_332 136 h
-- java/lang/StringLatin1.indexOfChar([BIII)I, the place 31
set_option maxRecDepth 100000 in
set_option maxHeartbeats 8000000 in
theorem f_332_31_1 (μ : wm_M) (Q : Option Value → wm_M → Prop) (h : Q (some (.int (-1 : Int32))) μ) : wm_Wp 0 332 31 [.null, .null, .null, .null, .null, .null] μ Q := wn_vc mo_332 (rt := some .int) (by decide +kernel) mc_332 136 h
def mb_331 : wm_B := [(0, [(.iload_n 1, 1, 0, 0, 0)]), (1, [(.invokestatic 88, 3, 330, 1, 4)]), (4, [(.ifCond .ne 5, 3, 9, 0, 0)]), (7, [(.iconst (-1), 1, 0, 0, 0)]), (8, [(.ireturn, 1, 0, 0, 0)]), (9, [(.iload_n 2, 1, 0, 0, 0)]), (10, [(.iconst 0, 1, 0, 0, 0)]), (11, [(.invokestatic 92, 3, 0, 0, 21)]), (14, [(.istore_n 2, 1, 0, 0, 0)]), (15, [(.iload_n 3, 1, 0, 0, 0)]), (16, [(.aload_n 0, 1, 0, 0, 0)]), (17, [(.arraylength, 1, 0, 0, 104)]), (18, [(.invokestatic 38, 3, 0, 0, 22)]), (21, [(.istore_n 3, 1, 0, 0, 0)]), (22, [(.iload_n 2, 1, 0, 0, 0)]), (23, [(.iload_n 3, 1, 0, 0, 0)]), (24, [(.if_icmp .lt 5, 3, 29, 0, 0)]), (27, [(.iconst (-1), 1, 0, 0, 0)]), (28, [(.ireturn, 1, 0, 0, 0)]), (29, [(.aload_n 0, 1, 0, 0, 0)]), (30, [(.iload_n 1, 1, 0, 0, 0)]), (31, [(.iload_n 2, 1, 0, 0, 0)]), (32, [(.iload_n 3, 1, 0, 0, 0)]), (33, [(.invokestatic 95, 3, 332, 4, 4)]), (36, [(.ireturn, 1, 0, 0, 0)])]
def mc_331 : List (Nat × List Bool) := [(7, [false, false, false, false]), (9, [true, true, true, true]), (15, [true, true, true, true]), (22, [true, true, true, true]), (29, [true, true, true, true])]
set_option maxRecDepth 100000 in
theorem mo_331 : wn_okB 331 (wm_oc 331) (wm_by 331) mb_331 = true := by decide +kernel
-- java/lang/StringLatin1.indexOf([BIII)I
set_option maxRecDepth 100000 in
set_option maxHeartbeats 8000000 in
theorem f_331_1 (a1 : Int32) (a2 : Int32) (a3 : Int32) (μ : wm_M) (Q : Option Value → wm_M → Prop) (h : wm_OkI 0 330 [.int a1] μ (fun r2 μ1 => ((r2 = (0 : Int32) → wm_Wp 0 331 7 [.null, .null, .null, .null] μ1 Q) ∧ (¬ r2 = (0 : Int32) → wm_Wp 0 331 9 [.ref 2011, .int a1, .int a2, .int a3] μ1 Q)))) : wm_Ok 0 331 [.ref 2011, .int a1, .int a2, .int a3] μ Q := wm_ent (nL := 4) (l := [.ref 2011, .int a1, .int a2, .int a3]) (by decide +kernel) (by decide +kernel) (by decide +kernel) rfl rfl (wn_vc mo_331 (rt := some .int) (by decide +kernel) mc_331 160 h)
-- java/lang/StringLatin1.indexOf([BIII)I, the place 7
set_option maxRecDepth 100000 in
set_option maxHeartbeats 8000000 in
theorem f_331_7_1 (μ : wm_M) (Q : Option Value → wm_M → Prop) (h : Q (some (.int (-1 : Int32))) μ) : wm_Wp 0 331 7 [.null, .null, .null, .null] μ Q := wn_vc mo_331 (rt := some .int) (by decide +kernel) mc_331 160 h
-- java/lang/StringLatin1.indexOf([BIII)I, the place 9
set_option maxRecDepth 100000 in
set_option maxHeartbeats 8000000 in
theorem f_331_9_1 (x1 : Int32) (x2 : Int32) (x3 : Int32) (μ : wm_M) (Q : Option Value → wm_M → Prop) (h : wm_Wp 0 331 15 [.ref 2011, .int x1, .int (if x2 < (0 : Int32) then (0 : Int32) else x2), .int x3] μ Q) : wm_Wp 0 331 9 [.ref 2011, .int x1, .int x2, .int x3] μ Q := wn_vc mo_331 (rt := some .int) (by decide +kernel) mc_331 160 h
-- java/lang/StringLatin1.indexOf([BIII)I, the place 15
set_option maxRecDepth 100000 in
set_option maxHeartbeats 8000000 in
theorem f_331_15_1 (x1 : Int32) (x2 : Int32) (x3 : Int32) (μ : wm_M) (Q : Option Value → wm_M → Prop) (h : wm_Wp 0 331 22 [.ref 2011, .int x1, .int x2, .int (if (Int32.ofNat 10) < x3 then (Int32.ofNat 10) else x3)] μ Q) : wm_Wp 0 331 15 [.ref 2011, .int x1, .int x2, .int x3] μ Q := wn_vc mo_331 (rt := some .int) (by decide +kernel) mc_331 160 h
-- java/lang/StringLatin1.indexOf([BIII)I, the place 22
set_option maxRecDepth 100000 in
set_option maxHeartbeats 8000000 in
theorem f_331_22_1 (x1 : Int32) (x2 : Int32) (x3 : Int32) (μ : wm_M) (Q : Option Value → wm_M → Prop) (h : ((x2 < x3 → wm_Wp 0 331 29 [.ref 2011, .int x1, .int x2, .int x3] μ Q) ∧ (¬ x2 < x3 → Q (some (.int (-1 : Int32))) μ))) : wm_Wp 0 331 22 [.ref 2011, .int x1, .int x2, .int x3] μ Q := wn_vc mo_331 (rt := some .int) (by decide +kernel) mc_331 160 h
-- java/lang/StringLatin1.indexOf([BIII)I, the place 29
set_option maxRecDepth 100000 in
set_option maxHeartbeats 8000000 in
theorem f_331_29_1 (x1 : Int32) (x2 : Int32) (x3 : Int32) (μ : wm_M) (Q : Option Value → wm_M → Prop) (h : wm_OkI 0 332 [.ref 2011, .int x1, .int x2, .int x3] μ (fun r2 μ1 => Q (some (.int r2)) μ1)) : wm_Wp 0 331 29 [.ref 2011, .int x1, .int x2, .int x3] μ Q := wn_vc mo_331 (rt := some .int) (by decide +kernel) mc_331 160 h
def mb_324 : wm_B := [(0, [(.aload_n 0, 1, 0, 0, 0)]), (1, [(.invokevirtual 492, 3, 326, 256, 1004)]), (4, [(.ifCond .eq 19, 3, 23, 0, 0)]), (7, [(.aload_n 0, 1, 0, 0, 0)]), (8, [(.getfield 9, 3, 0, 0, 101)]), (11, [(.iload_n 1, 1, 0, 0, 0)]), (12, [(.iload_n 2, 1, 0, 0, 0)]), (13, [(.aload_n 0, 1, 0, 0, 0)]), (14, [(.invokevirtual 505, 3, 321, 256, 1004)]), (17, [(.invokestatic 637, 3, 331, 4, 4)]), (20, [(.goto 16, 3, 36, 0, 0)]), (23, [(.aload_n 0, 1, 0, 0, 0)]), (24, [(.getfield 9, 3, 0, 0, 101)]), (27, [(.iload_n 1, 1, 0, 0, 0)]), (28, [(.iload_n 2, 1, 0, 0, 0)]), (29, [(.aload_n 0, 1, 0, 0, 0)]), (30, [(.invokevirtual 505, 3, 321, 256, 1004)]), (33, [(.invokestatic 640, 3, 335, 4, 4)]), (36, [(.ireturn, 1, 0, 0, 0)])]
def mc_324 : List (Nat × List Bool) := [(7, [true, true, true]), (23, [true, true, true])]
set_option maxRecDepth 100000 in
theorem mo_324 : wn_okB 324 (wm_oc 324) (wm_by 324) mb_324 = true := by decide +kernel
-- java/lang/String.indexOf(II)I
set_option maxRecDepth 100000 in
set_option maxHeartbeats 8000000 in
theorem f_324_1 (a1 : Int32) (a2 : Int32) (μ : wm_M) (Q : Option Value → wm_M → Prop) (h : wm_OkI 0 326 [.ref 2001] μ (fun r2 μ1 => ((r2 = (0 : Int32) → wm_Wp 0 324 23 [.ref 2001, .int a1, .int a2] μ1 Q) ∧ (¬ r2 = (0 : Int32) → wm_Wp 0 324 7 [.ref 2001, .int a1, .int a2] μ1 Q)))) : wm_Ok 0 324 [.ref 2001, .int a1, .int a2] μ Q := wm_ent (nL := 3) (l := [.ref 2001, .int a1, .int a2]) (by decide +kernel) (by decide +kernel) (by decide +kernel) rfl rfl (wn_vc mo_324 (rt := some .int) (by decide +kernel) mc_324 136 h)
-- java/lang/String.indexOf(II)I, the place 7
set_option maxRecDepth 100000 in
set_option maxHeartbeats 8000000 in
theorem f_324_7_1 (x1 : Int32) (x2 : Int32) (μ : wm_M) (Q : Option Value → wm_M → Prop) (h : wm_OkI 0 321 [.ref 2001] μ (fun r2 μ1 => wm_OkI 0 331 [.ref 2011, .int x1, .int x2, .int r2] μ1 (fun r4 μ3 => Q (some (.int r4)) μ3))) : wm_Wp 0 324 7 [.ref 2001, .int x1, .int x2] μ Q := wn_vc mo_324 (rt := some .int) (by decide +kernel) mc_324 136 h
-- java/lang/String.indexOf(II)I, the place 23
set_option maxRecDepth 100000 in
set_option maxHeartbeats 8000000 in
theorem f_324_23_1 (x1 : Int32) (x2 : Int32) (μ : wm_M) (Q : Option Value → wm_M → Prop) (h : wm_OkI 0 321 [.ref 2001] μ (fun r2 μ1 => wm_OkI 0 335 [.ref 2011, .int x1, .int x2, .int r2] μ1 (fun r4 μ3 => Q (some (.int r4)) μ3))) : wm_Wp 0 324 23 [.ref 2001, .int x1, .int x2] μ Q := wn_vc mo_324 (rt := some .int) (by decide +kernel) mc_324 136 h
def mb_323 : wm_B := [(0, [(.aload_n 0, 1, 0, 0, 0)]), (1, [(.iload_n 1, 1, 0, 0, 0)]), (2, [(.iconst 0, 1, 0, 0, 0)]), (3, [(.invokevirtual 633, 3, 324, 258, 1004)]), (6, [(.ireturn, 1, 0, 0, 0)])]
def mc_323 : List (Nat × List Bool) := []
set_option maxRecDepth 100000 in
theorem mo_323 : wn_okB 323 (wm_oc 323) (wm_by 323) mb_323 = true := by decide +kernel
-- java/lang/String.indexOf(I)I
set_option maxRecDepth 100000 in
set_option maxHeartbeats 8000000 in
theorem f_323_1 (a1 : Int32) (μ : wm_M) (Q : Option Value → wm_M → Prop) (h : wm_OkI 0 324 [.ref 2001, .int a1, .int (0 : Int32)] μ (fun r2 μ1 => Q (some (.int r2)) μ1)) : wm_Ok 0 323 [.ref 2001, .int a1] μ Q := wm_ent (nL := 2) (l := [.ref 2001, .int a1]) (by decide +kernel) (by decide +kernel) (by decide +kernel) rfl rfl (wn_vc mo_323 (rt := some .int) (by decide +kernel) mc_323 80 h)
def mb_329 : wm_B := [(0, [(.iload_n 1, 1, 0, 0, 0)]), (1, [(.aload_n 0, 1, 0, 0, 0)]), (2, [(.arraylength, 1, 0, 0, 104)]), (3, [(.invokestatic 9, 3, 327, 2, 0)]), (6, [(.aload_n 0, 1, 0, 0, 0)]), (7, [(.iload_n 1, 1, 0, 0, 0)]), (8, [(.baload, 1, 0, 0, 103)]), (9, [(.sipush 255, 3, 0, 0, 0)]), (12, [(.iand, 1, 0, 0, 0)]), (13, [(.i2c, 1, 0, 0, 0)]), (14, [(.ireturn, 1, 0, 0, 0)])]
def mc_329 : List (Nat × List Bool) := [(6, [true, true])]
set_option maxRecDepth 100000 in
theorem mo_329 : wn_okB 329 (wm_oc 329) (wm_by 329) mb_329 = true := by decide +kernel
-- java/lang/StringLatin1.charAt([BI)C
set_option maxRecDepth 100000 in
set_option maxHeartbeats 8000000 in
theorem f_329_0 (a1 : Int32) (μ : wm_M) (Q : Option Value → wm_M → Prop) (h : wm_OkV 0 327 [.int a1, .int (Int32.ofNat 63)] μ (fun μ1 => wm_Wp 0 329 6 [.ref 2010, .int a1] μ1 Q)) : wm_Ok 0 329 [.ref 2010, .int a1] μ Q := wm_ent (nL := 2) (l := [.ref 2010, .int a1]) (by decide +kernel) (by decide +kernel) (by decide +kernel) rfl rfl (wn_vc mo_329 (rt := some .char) (by decide +kernel) mc_329 104 h)
-- java/lang/StringLatin1.charAt([BI)C, the place 6
set_option maxRecDepth 100000 in
set_option maxHeartbeats 8000000 in
theorem f_329_6_0 (x1 : Int32) (μ : wm_M) (Q : Option Value → wm_M → Prop) (h : (vp_in x1 63 ∧ ((narrow .char (.int ((((wm_S1.getD (x1).toNatClampNeg 0) &&& (255 : Int32))).toUInt32 % 65536).toInt32) = .int ((((wm_S1.getD (x1).toNatClampNeg 0) &&& (255 : Int32))).toUInt32 % 65536).toInt32) ∧ Q (some (.int ((((wm_S1.getD (x1).toNatClampNeg 0) &&& (255 : Int32))).toUInt32 % 65536).toInt32)) μ))) : wm_Wp 0 329 6 [.ref 2010, .int x1] μ Q := wn_vc mo_329 (rt := some .char) (by decide +kernel) mc_329 104 h
def mb_322 : wm_B := [(0, [(.aload_n 0, 1, 0, 0, 0)]), (1, [(.invokevirtual 492, 3, 326, 256, 1004)]), (4, [(.ifCond .eq 12, 3, 16, 0, 0)]), (7, [(.aload_n 0, 1, 0, 0, 0)]), (8, [(.getfield 9, 3, 0, 0, 101)]), (11, [(.iload_n 1, 1, 0, 0, 0)]), (12, [(.invokestatic 495, 3, 329, 2, 4)]), (15, [(.ireturn, 1, 0, 0, 0)]), (16, [(.aload_n 0, 1, 0, 0, 0)]), (17, [(.getfield 9, 3, 0, 0, 101)]), (20, [(.iload_n 1, 1, 0, 0, 0)]), (21, [(.invokestatic 498, 3, 339, 2, 4)]), (24, [(.ireturn, 1, 0, 0, 0)])]
def mc_322 : List (Nat × List Bool) := [(7, [true, true]), (16, [true, true])]
set_option maxRecDepth 100000 in
theorem mo_322 : wn_okB 322 (wm_oc 322) (wm_by 322) mb_322 = true := by decide +kernel
-- java/lang/String.charAt(I)C
set_option maxRecDepth 100000 in
set_option maxHeartbeats 8000000 in
theorem f_322_0 (a1 : Int32) (μ : wm_M) (Q : Option Value → wm_M → Prop) (h : wm_OkI 0 326 [.ref 2000] μ (fun r2 μ1 => ((r2 = (0 : Int32) → wm_Wp 0 322 16 [.ref 2000, .int a1] μ1 Q) ∧ (¬ r2 = (0 : Int32) → wm_Wp 0 322 7 [.ref 2000, .int a1] μ1 Q)))) : wm_Ok 0 322 [.ref 2000, .int a1] μ Q := wm_ent (nL := 2) (l := [.ref 2000, .int a1]) (by decide +kernel) (by decide +kernel) (by decide +kernel) rfl rfl (wn_vc mo_322 (rt := some .char) (by decide +kernel) mc_322 112 h)
-- java/lang/String.charAt(I)C, the place 7
set_option maxRecDepth 100000 in
set_option maxHeartbeats 8000000 in
theorem f_322_7_0 (x1 : Int32) (μ : wm_M) (Q : Option Value → wm_M → Prop) (h : wm_OkI 0 329 [.ref 2010, .int x1] μ (fun r2 μ1 => ((narrow .char (.int (r2)) = .int (r2)) ∧ Q (some (.int r2)) μ1))) : wm_Wp 0 322 7 [.ref 2000, .int x1] μ Q := wn_vc mo_322 (rt := some .char) (by decide +kernel) mc_322 112 h
-- java/lang/String.charAt(I)C, the place 16
set_option maxRecDepth 100000 in
set_option maxHeartbeats 8000000 in
theorem f_322_16_0 (x1 : Int32) (μ : wm_M) (Q : Option Value → wm_M → Prop) (h : wm_OkI 0 339 [.ref 2010, .int x1] μ (fun r2 μ1 => ((narrow .char (.int (r2)) = .int (r2)) ∧ Q (some (.int r2)) μ1))) : wm_Wp 0 322 16 [.ref 2000, .int x1] μ Q := wn_vc mo_322 (rt := some .char) (by decide +kernel) mc_322 112 h
def mb_92 : wm_B := [(0, [(.aload_n 0, 1, 0, 0, 0)]), (1, [(.getfield 34, 3, 9, 6, 0)]), (4, [(.istore_n 2, 1, 0, 0, 0)]), (5, [(.iload_n 2, 1, 0, 0, 0)]), (6, [(.aload_n 0, 1, 0, 0, 0)]), (7, [(.getfield 22, 3, 9, 7, 0)]), (10, [(.if_icmp .ge 33, 3, 43, 0, 0)]), (13, [(.aload_n 0, 1, 0, 0, 0)]), (14, [(.getfield 9, 3, 9, 0, 0)]), (17, [(.iload_n 2, 1, 0, 0, 0)]), (18, [(.iaload, 1, 0, 0, 0)]), (19, [(.ldc 67, 2, 0, 0, 100)]), (21, [(.iload_n 1, 1, 0, 0, 0)]), (22, [(.iload_n 2, 1, 0, 0, 0)]), (23, [(.iadd, 1, 0, 0, 0)]), (24, [(.aload_n 0, 1, 0, 0, 0)]), (25, [(.getfield 34, 3, 9, 6, 0)]), (28, [(.isub, 1, 0, 0, 0)]), (29, [(.invokevirtual 73, 3, 322, 257, 1004)]), (32, [(.if_icmp .eq 5, 3, 37, 0, 0)]), (35, [(.iconst 0, 1, 0, 0, 0)]), (36, [(.ireturn, 1, 0, 0, 0)]), (37, [(.iinc 2 1, 3, 0, 0, 0)]), (40, [(.goto (-35), 3, 5, 0, 0)]), (43, [(.iconst 1, 1, 0, 0, 0)]), (44, [(.ireturn, 1, 0, 0, 0)])]
def mc_92 : List (Nat × List Bool) := [(5, [true, true, true]), (35, [false, false, false]), (37, [true, true, true]), (43, [false, false, false])]
set_option maxRecDepth 100000 in
theorem mo_92 : wn_okB 92 (wm_oc 92) (wm_by 92) mb_92 = true := by decide +kernel
-- WindBoat$Tape.isSpelt(I)Z
set_option maxRecDepth 100000 in
set_option maxHeartbeats 8000000 in
theorem f_92 (a1 : Int32) (μ : wm_M) (Q : Option Value → wm_M → Prop) (h : wm_Wp 0 92 5 [.ref 59, .int a1, .int (μ.1 59 6)] μ Q) : wm_Ok 0 92 [.ref 59, .int a1] μ Q := wm_ent (nL := 3) (l := [.ref 59, .int a1, .null]) (by decide +kernel) (by decide +kernel) (by decide +kernel) rfl rfl (wn_vc mo_92 (rt := some .boolean) (by decide +kernel) mc_92 164 h)
-- WindBoat$Tape.isSpelt(I)Z, the place 5
set_option maxRecDepth 100000 in
set_option maxHeartbeats 8000000 in
theorem f_92_5 (x1 : Int32) (x2 : Int32) (μ : wm_M) (Q : Option Value → wm_M → Prop) (h : (((μ.1 59 7) ≤ x2 → wm_Wp 0 92 43 [.null, .null, .null] μ Q) ∧ (¬ (μ.1 59 7) ≤ x2 → (vp_in x2 120 ∧ wm_OkI 0 322 [.ref 2000, .int ((x1 + x2) - (μ.1 59 6))] μ (fun r2 μ1 => (((μ.1 60 (x2).toNatClampNeg) = r2 → wm_Wp 0 92 37 [.ref 59, .int x1, .int x2] μ1 Q) ∧ (¬ (μ.1 60 (x2).toNatClampNeg) = r2 → wm_Wp 0 92 35 [.null, .null, .null] μ1 Q))))))) : wm_Wp 0 92 5 [.ref 59, .int x1, .int x2] μ Q := wn_vc mo_92 (rt := some .boolean) (by decide +kernel) mc_92 164 h
-- WindBoat$Tape.isSpelt(I)Z, the place 35
set_option maxRecDepth 100000 in
set_option maxHeartbeats 8000000 in
theorem f_92_35 (μ : wm_M) (Q : Option Value → wm_M → Prop) (h : (((0 : Int32) = 0 ∨ (0 : Int32) = 1) ∧ Q (some (.int (0 : Int32))) μ)) : wm_Wp 0 92 35 [.null, .null, .null] μ Q := wn_vc mo_92 (rt := some .boolean) (by decide +kernel) mc_92 164 h
-- WindBoat$Tape.isSpelt(I)Z, the place 37
set_option maxRecDepth 100000 in
set_option maxHeartbeats 8000000 in
theorem f_92_37 (x1 : Int32) (x2 : Int32) (μ : wm_M) (Q : Option Value → wm_M → Prop) (h : wm_Wp 0 92 5 [.ref 59, .int x1, .int (x2 + (1 : Int32))] μ Q) : wm_Wp 0 92 37 [.ref 59, .int x1, .int x2] μ Q := wn_vc mo_92 (rt := some .boolean) (by decide +kernel) mc_92 164 h
-- WindBoat$Tape.isSpelt(I)Z, the place 43
set_option maxRecDepth 100000 in
set_option maxHeartbeats 8000000 in
theorem f_92_43 (μ : wm_M) (Q : Option Value → wm_M → Prop) (h : (((1 : Int32) = 0 ∨ (1 : Int32) = 1) ∧ Q (some (.int (1 : Int32))) μ)) : wm_Wp 0 92 43 [.null, .null, .null] μ Q := wn_vc mo_92 (rt := some .boolean) (by decide +kernel) mc_92 164 h
def mb_91 : wm_B := [(0, [(.aload_n 0, 1, 0, 0, 0)]), (1, [(.getfield 22, 3, 9, 7, 0)]), (4, [(.aload_n 0, 1, 0, 0, 0)]), (5, [(.getfield 18, 3, 9, 1, 0)]), (8, [(.if_icmp .ge 31, 3, 39, 0, 0)]), (11, [(.aload_n 0, 1, 0, 0, 0)]), (12, [(.getfield 9, 3, 9, 0, 0)]), (15, [(.aload_n 0, 1, 0, 0, 0)]), (16, [(.getfield 22, 3, 9, 7, 0)]), (19, [(.iaload, 1, 0, 0, 0)]), (20, [(.invokestatic 47, 3, 94, 1, 4)]), (23, [(.ifCond .eq 16, 3, 39, 0, 0)]), (26, [(.aload_n 0, 1, 0, 0, 0)]), (27, [(.dup, 1, 0, 0, 0)]), (28, [(.getfield 22, 3, 9, 7, 0)]), (31, [(.iconst 1, 1, 0, 0, 0)]), (32, [(.iadd, 1, 0, 0, 0)]), (33, [(.putfield 22, 3, 9, 7, 0)]), (36, [(.goto (-36), 3, 0, 0, 0)]), (39, [(.aload_n 0, 1, 0, 0, 0)]), (40, [(.sipush 130, 3, 0, 0, 0)]), (43, [(.putfield 31, 3, 9, 8, 0)]), (46, [(.iconst 0, 1, 0, 0, 0)]), (47, [(.istore_n 1, 1, 0, 0, 0)]), (48, [(.iconst 0, 1, 0, 0, 0)]), (49, [(.istore_n 2, 1, 0, 0, 0)]), (50, [(.iconst 0, 1, 0, 0, 0)]), (51, [(.istore_n 3, 1, 0, 0, 0)]), (52, [(.iload_n 3, 1, 0, 0, 0)]), (53, [(.ldc 67, 2, 0, 0, 100)]), (55, [(.invokevirtual 69, 3, 321, 256, 1004)]), (58, [(.if_icmp .ge 56, 3, 114, 0, 0)]), (61, [(.ldc 67, 2, 0, 0, 100)]), (63, [(.iload_n 3, 1, 0, 0, 0)]), (64, [(.invokevirtual 73, 3, 322, 257, 1004)]), (67, [(.bipush 32, 2, 0, 0, 0)]), (69, [(.if_icmp .ne 39, 3, 108, 0, 0)]), (72, [(.iload_n 3, 1, 0, 0, 0)]), (73, [(.iload_n 2, 1, 0, 0, 0)]), (74, [(.isub, 1, 0, 0, 0)]), (75, [(.aload_n 0, 1, 0, 0, 0)]), (76, [(.getfield 22, 3, 9, 7, 0)]), (79, [(.aload_n 0, 1, 0, 0, 0)]), (80, [(.getfield 34, 3, 9, 6, 0)]), (83, [(.isub, 1, 0, 0, 0)]), (84, [(.if_icmp .ne 17, 3, 101, 0, 0)]), (87, [(.aload_n 0, 1, 0, 0, 0)]), (88, [(.iload_n 2, 1, 0, 0, 0)]), (89, [(.invokevirtual 77, 3, 92, 145, 4)]), (92, [(.ifCond .eq 9, 3, 101, 0, 0)]), (95, [(.aload_n 0, 1, 0, 0, 0)]), (96, [(.iload_n 1, 1, 0, 0, 0)]), (97, [(.putfield 31, 3, 9, 8, 0)]), (100, [(.return_, 1, 0, 0, 0)]), (101, [(.iinc 1 1, 3, 0, 0, 0)]), (104, [(.iload_n 3, 1, 0, 0, 0)]), (105, [(.iconst 1, 1, 0, 0, 0)]), (106, [(.iadd, 1, 0, 0, 0)]), (107, [(.istore_n 2, 1, 0, 0, 0)]), (108, [(.iinc 3 1, 3, 0, 0, 0)]), (111, [(.goto (-59), 3, 52, 0, 0)]), (114, [(.return_, 1, 0, 0, 0)])]
def mc_91 : List (Nat × List Bool) := [(0, [true, false, false, false]), (26, [true, false, false, false]), (36, [true, false, false, false]), (39, [true, false, false, false]), (46, [true, false, false, false]), (52, [true, true, true, true]), (61, [true, true, true, true]), (72, [true, true, true, true]), (95, [true, true, false, false]), (100, [false, false, false, false]), (101, [true, true, false, true]), (108, [true, true, true, true]), (114, [false, false, false, false])]
set_option maxRecDepth 100000 in
theorem mo_91 : wn_okB 91 (wm_oc 91) (wm_by 91) mb_91 = true := by decide +kernel
-- WindBoat$Tape.advanceByWord()V
set_option maxRecDepth 100000 in
set_option maxHeartbeats 8000000 in
theorem f_91 (μ : wm_M) (Q : Option Value → wm_M → Prop) (h : wm_Wp 0 91 0 [.ref 59, .null, .null, .null] μ Q) : wm_Ok 0 91 [.ref 59] μ Q := wm_ent (nL := 4) (l := [.ref 59, .null, .null, .null]) (by decide +kernel) (by decide +kernel) (by decide +kernel) rfl rfl h
-- WindBoat$Tape.advanceByWord()V, the place 0
set_option maxRecDepth 100000 in
set_option maxHeartbeats 8000000 in
theorem f_91_0 (μ : wm_M) (Q : Option Value → wm_M → Prop) (h : (((μ.1 59 1) ≤ (μ.1 59 7) → wm_Wp 0 91 39 [.ref 59, .null, .null, .null] μ Q) ∧ (¬ (μ.1 59 1) ≤ (μ.1 59 7) → (vp_in (μ.1 59 7) 120 ∧ wm_OkI 0 94 [.int (μ.1 60 ((μ.1 59 7)).toNatClampNeg)] μ (fun r2 μ1 => ((r2 = (0 : Int32) → wm_Wp 0 91 39 [.ref 59, .null, .null, .null] μ1 Q) ∧ (¬ r2 = (0 : Int32) → wm_Wp 0 91 26 [.ref 59, .null, .null, .null] μ1 Q))))))) : wm_Wp 0 91 0 [.ref 59, .null, .null, .null] μ Q := wn_vc mo_91 (rt := none) (by decide +kernel) mc_91 308 h
-- WindBoat$Tape.advanceByWord()V, the place 26
set_option maxRecDepth 100000 in
set_option maxHeartbeats 8000000 in
theorem f_91_26 (μ : wm_M) (Q : Option Value → wm_M → Prop) (h : wm_Wp 0 91 36 [.ref 59, .null, .null, .null] (wm_si μ 59 7 ((μ.1 59 7) + (1 : Int32))) Q) : wm_Wp 0 91 26 [.ref 59, .null, .null, .null] μ Q := wn_vc mo_91 (rt := none) (by decide +kernel) mc_91 308 h
-- WindBoat$Tape.advanceByWord()V, the place 36
set_option maxRecDepth 100000 in
set_option maxHeartbeats 8000000 in
theorem f_91_36 (μ : wm_M) (Q : Option Value → wm_M → Prop) (h : wm_Wp 0 91 0 [.ref 59, .null, .null, .null] μ Q) : wm_Wp 0 91 36 [.ref 59, .null, .null, .null] μ Q := wn_vc mo_91 (rt := none) (by decide +kernel) mc_91 308 h
-- WindBoat$Tape.advanceByWord()V, the place 39
set_option maxRecDepth 100000 in
set_option maxHeartbeats 8000000 in
theorem f_91_39 (μ : wm_M) (Q : Option Value → wm_M → Prop) (h : wm_Wp 0 91 46 [.ref 59, .null, .null, .null] (wm_si μ 59 8 (130 : Int32)) Q) : wm_Wp 0 91 39 [.ref 59, .null, .null, .null] μ Q := wn_vc mo_91 (rt := none) (by decide +kernel) mc_91 308 h
-- WindBoat$Tape.advanceByWord()V, the place 46
set_option maxRecDepth 100000 in
set_option maxHeartbeats 8000000 in
theorem f_91_46 (μ : wm_M) (Q : Option Value → wm_M → Prop) (h : wm_Wp 0 91 52 [.ref 59, .int (0 : Int32), .int (0 : Int32), .int (0 : Int32)] μ Q) : wm_Wp 0 91 46 [.ref 59, .null, .null, .null] μ Q := wn_vc mo_91 (rt := none) (by decide +kernel) mc_91 308 h
-- WindBoat$Tape.advanceByWord()V, the place 52
set_option maxRecDepth 100000 in
set_option maxHeartbeats 8000000 in
theorem f_91_52 (x1 : Int32) (x2 : Int32) (x3 : Int32) (μ : wm_M) (Q : Option Value → wm_M → Prop) (h : wm_OkI 0 321 [.ref 2000] μ (fun r2 μ1 => ((r2 ≤ x3 → wm_Wp 0 91 114 [.null, .null, .null, .null] μ1 Q) ∧ (¬ r2 ≤ x3 → wm_Wp 0 91 61 [.ref 59, .int x1, .int x2, .int x3] μ1 Q)))) : wm_Wp 0 91 52 [.ref 59, .int x1, .int x2, .int x3] μ Q := wn_vc mo_91 (rt := none) (by decide +kernel) mc_91 308 h
-- WindBoat$Tape.advanceByWord()V, the place 61
set_option maxRecDepth 100000 in
set_option maxHeartbeats 8000000 in
theorem f_91_61 (x1 : Int32) (x2 : Int32) (x3 : Int32) (μ : wm_M) (Q : Option Value → wm_M → Prop) (h : wm_OkI 0 322 [.ref 2000, .int x3] μ (fun r2 μ1 => ((r2 = (32 : Int32) → wm_Wp 0 91 72 [.ref 59, .int x1, .int x2, .int x3] μ1 Q) ∧ (¬ r2 = (32 : Int32) → wm_Wp 0 91 108 [.ref 59, .int x1, .int x2, .int x3] μ1 Q)))) : wm_Wp 0 91 61 [.ref 59, .int x1, .int x2, .int x3] μ Q := wn_vc mo_91 (rt := none) (by decide +kernel) mc_91 308 h
-- WindBoat$Tape.advanceByWord()V, the place 72
set_option maxRecDepth 100000 in
set_option maxHeartbeats 8000000 in
theorem f_91_72 (x1 : Int32) (x2 : Int32) (x3 : Int32) (μ : wm_M) (Q : Option Value → wm_M → Prop) (h : (((x3 - x2) = ((μ.1 59 7) - (μ.1 59 6)) → wm_OkI 0 92 [.ref 59, .int x2] μ (fun r2 μ1 => ((r2 = (0 : Int32) → wm_Wp 0 91 101 [.ref 59, .int x1, .null, .int x3] μ1 Q) ∧ (¬ r2 = (0 : Int32) → wm_Wp 0 91 95 [.ref 59, .int x1, .null, .null] μ1 Q)))) ∧ (¬ (x3 - x2) = ((μ.1 59 7) - (μ.1 59 6)) → wm_Wp 0 91 101 [.ref 59, .int x1, .null, .int x3] μ Q))) : wm_Wp 0 91 72 [.ref 59, .int x1, .int x2, .int x3] μ Q := wn_vc mo_91 (rt := none) (by decide +kernel) mc_91 308 h
-- WindBoat$Tape.advanceByWord()V, the place 95
set_option maxRecDepth 100000 in
set_option maxHeartbeats 8000000 in
theorem f_91_95 (x1 : Int32) (μ : wm_M) (Q : Option Value → wm_M → Prop) (h : wm_Wp 0 91 100 [.null, .null, .null, .null] (wm_si μ 59 8 x1) Q) : wm_Wp 0 91 95 [.ref 59, .int x1, .null, .null] μ Q := wn_vc mo_91 (rt := none) (by decide +kernel) mc_91 308 h
-- WindBoat$Tape.advanceByWord()V, the place 100
set_option maxRecDepth 100000 in
set_option maxHeartbeats 8000000 in
theorem f_91_100 (μ : wm_M) (Q : Option Value → wm_M → Prop) (h : Q none μ) : wm_Wp 0 91 100 [.null, .null, .null, .null] μ Q := wn_vc mo_91 (rt := none) (by decide +kernel) mc_91 308 h
-- WindBoat$Tape.advanceByWord()V, the place 101
set_option maxRecDepth 100000 in
set_option maxHeartbeats 8000000 in
theorem f_91_101 (x1 : Int32) (x3 : Int32) (μ : wm_M) (Q : Option Value → wm_M → Prop) (h : wm_Wp 0 91 108 [.ref 59, .int (x1 + (1 : Int32)), .int (x3 + (1 : Int32)), .int x3] μ Q) : wm_Wp 0 91 101 [.ref 59, .int x1, .null, .int x3] μ Q := wn_vc mo_91 (rt := none) (by decide +kernel) mc_91 308 h
-- WindBoat$Tape.advanceByWord()V, the place 108
set_option maxRecDepth 100000 in
set_option maxHeartbeats 8000000 in
theorem f_91_108 (x1 : Int32) (x2 : Int32) (x3 : Int32) (μ : wm_M) (Q : Option Value → wm_M → Prop) (h : wm_Wp 0 91 52 [.ref 59, .int x1, .int x2, .int (x3 + (1 : Int32))] μ Q) : wm_Wp 0 91 108 [.ref 59, .int x1, .int x2, .int x3] μ Q := wn_vc mo_91 (rt := none) (by decide +kernel) mc_91 308 h
-- WindBoat$Tape.advanceByWord()V, the place 114
set_option maxRecDepth 100000 in
set_option maxHeartbeats 8000000 in
theorem f_91_114 (μ : wm_M) (Q : Option Value → wm_M → Prop) (h : Q none μ) : wm_Wp 0 91 114 [.null, .null, .null, .null] μ Q := wn_vc mo_91 (rt := none) (by decide +kernel) mc_91 308 h
def mb_90 : wm_B := [(0, [(.aload_n 0, 1, 0, 0, 0)]), (1, [(.aload_n 0, 1, 0, 0, 0)]), (2, [(.getfield 22, 3, 9, 7, 0)]), (5, [(.putfield 34, 3, 9, 6, 0)]), (8, [(.aload_n 0, 1, 0, 0, 0)]), (9, [(.getfield 34, 3, 9, 6, 0)]), (12, [(.aload_n 0, 1, 0, 0, 0)]), (13, [(.getfield 18, 3, 9, 1, 0)]), (16, [(.if_icmp .ge 30, 3, 46, 0, 0)]), (19, [(.aload_n 0, 1, 0, 0, 0)]), (20, [(.getfield 9, 3, 9, 0, 0)]), (23, [(.aload_n 0, 1, 0, 0, 0)]), (24, [(.getfield 34, 3, 9, 6, 0)]), (27, [(.iaload, 1, 0, 0, 0)]), (28, [(.bipush 32, 2, 0, 0, 0)]), (30, [(.if_icmp .ne 16, 3, 46, 0, 0)]), (33, [(.aload_n 0, 1, 0, 0, 0)]), (34, [(.dup, 1, 0, 0, 0)]), (35, [(.getfield 34, 3, 9, 6, 0)]), (38, [(.iconst 1, 1, 0, 0, 0)]), (39, [(.iadd, 1, 0, 0, 0)]), (40, [(.putfield 34, 3, 9, 6, 0)]), (43, [(.goto (-35), 3, 8, 0, 0)]), (46, [(.aload_n 0, 1, 0, 0, 0)]), (47, [(.aload_n 0, 1, 0, 0, 0)]), (48, [(.getfield 34, 3, 9, 6, 0)]), (51, [(.putfield 22, 3, 9, 7, 0)]), (54, [(.aload_n 0, 1, 0, 0, 0)]), (55, [(.getfield 34, 3, 9, 6, 0)]), (58, [(.aload_n 0, 1, 0, 0, 0)]), (59, [(.getfield 18, 3, 9, 1, 0)]), (62, [(.if_icmp .ne 13, 3, 75, 0, 0)]), (65, [(.aload_n 0, 1, 0, 0, 0)]), (66, [(.sipush 128, 3, 0, 0, 0)]), (69, [(.putfield 31, 3, 9, 8, 0)]), (72, [(.goto 94, 3, 166, 0, 0)]), (75, [(.aload_n 0, 1, 0, 0, 0)]), (76, [(.getfield 9, 3, 9, 0, 0)]), (79, [(.aload_n 0, 1, 0, 0, 0)]), (80, [(.getfield 34, 3, 9, 6, 0)]), (83, [(.iaload, 1, 0, 0, 0)]), (84, [(.invokestatic 47, 3, 94, 1, 4)]), (87, [(.ifCond .eq 10, 3, 97, 0, 0)]), (90, [(.aload_n 0, 1, 0, 0, 0)]), (91, [(.invokevirtual 50, 3, 91, 144, 0)]), (94, [(.goto 72, 3, 166, 0, 0)]), (97, [(.aload_n 0, 1, 0, 0, 0)]), (98, [(.getfield 9, 3, 9, 0, 0)]), (101, [(.aload_n 0, 1, 0, 0, 0)]), (102, [(.getfield 34, 3, 9, 6, 0)]), (105, [(.iaload, 1, 0, 0, 0)]), (106, [(.invokestatic 53, 3, 95, 1, 4)]), (109, [(.ifCond .eq 10, 3, 119, 0, 0)]), (112, [(.aload_n 0, 1, 0, 0, 0)]), (113, [(.invokevirtual 56, 3, 93, 144, 0)]), (116, [(.goto 50, 3, 166, 0, 0)]), (119, [(.aload_n 0, 1, 0, 0, 0)]), (120, [(.aload_n 0, 1, 0, 0, 0)]), (121, [(.getfield 34, 3, 9, 6, 0)]), (124, [(.iconst 1, 1, 0, 0, 0)]), (125, [(.iadd, 1, 0, 0, 0)]), (126, [(.putfield 22, 3, 9, 7, 0)]), (129, [(.aload_n 0, 1, 0, 0, 0)]), (130, [(.ldc 59, 2, 1, 0, 100)]), (132, [(.aload_n 0, 1, 0, 0, 0)]), (133, [(.getfield 9, 3, 9, 0, 0)]), (136, [(.aload_n 0, 1, 0, 0, 0)]), (137, [(.getfield 34, 3, 9, 6, 0)]), (140, [(.iaload, 1, 0, 0, 0)]), (141, [(.i2c, 1, 0, 0, 0)]), (142, [(.invokevirtual 61, 3, 323, 257, 1004)]), (145, [(.ifCond .lt 15, 3, 160, 0, 0)]), (148, [(.aload_n 0, 1, 0, 0, 0)]), (149, [(.getfield 9, 3, 9, 0, 0)]), (152, [(.aload_n 0, 1, 0, 0, 0)]), (153, [(.getfield 34, 3, 9, 6, 0)]), (156, [(.iaload, 1, 0, 0, 0)]), (157, [(.goto 6, 3, 163, 0, 0)]), (160, [(.sipush 130, 3, 0, 0, 0)]), (163, [(.putfield 31, 3, 9, 8, 0)]), (166, [(.return_, 1, 0, 0, 0)])]
def mc_90 : List (Nat × List Bool) := [(8, [true]), (33, [true]), (43, [true]), (46, [true]), (54, [true]), (72, [false]), (75, [true]), (90, [true]), (94, [false]), (97, [true]), (112, [true]), (116, [false]), (119, [true]), (129, [true]), (166, [false])]
set_option maxRecDepth 100000 in
theorem mo_90 : wn_okB 90 (wm_oc 90) (wm_by 90) mb_90 = true := by decide +kernel
-- WindBoat$Tape.advance()V
set_option maxRecDepth 100000 in
set_option maxHeartbeats 8000000 in
theorem f_90 (μ : wm_M) (Q : Option Value → wm_M → Prop) (h : wm_Wp 0 90 8 [.ref 59] (wm_si μ 59 6 (μ.1 59 7)) Q) : wm_Ok 0 90 [.ref 59] μ Q := wm_ent (nL := 1) (l := [.ref 59]) (by decide +kernel) (by decide +kernel) (by decide +kernel) rfl rfl (wn_vc mo_90 (rt := none) (by decide +kernel) mc_90 384 h)
-- WindBoat$Tape.advance()V, the place 8
set_option maxRecDepth 100000 in
set_option maxHeartbeats 8000000 in
theorem f_90_8 (μ : wm_M) (Q : Option Value → wm_M → Prop) (h : (((μ.1 59 1) ≤ (μ.1 59 6) → wm_Wp 0 90 46 [.ref 59] μ Q) ∧ (¬ (μ.1 59 1) ≤ (μ.1 59 6) → (vp_in (μ.1 59 6) 120 ∧ (((μ.1 60 ((μ.1 59 6)).toNatClampNeg) = (32 : Int32) → wm_Wp 0 90 33 [.ref 59] μ Q) ∧ (¬ (μ.1 60 ((μ.1 59 6)).toNatClampNeg) = (32 : Int32) → wm_Wp 0 90 46 [.ref 59] μ Q)))))) : wm_Wp 0 90 8 [.ref 59] μ Q := wn_vc mo_90 (rt := none) (by decide +kernel) mc_90 384 h
-- WindBoat$Tape.advance()V, the place 33
set_option maxRecDepth 100000 in
set_option maxHeartbeats 8000000 in
theorem f_90_33 (μ : wm_M) (Q : Option Value → wm_M → Prop) (h : wm_Wp 0 90 43 [.ref 59] (wm_si μ 59 6 ((μ.1 59 6) + (1 : Int32))) Q) : wm_Wp 0 90 33 [.ref 59] μ Q := wn_vc mo_90 (rt := none) (by decide +kernel) mc_90 384 h
-- WindBoat$Tape.advance()V, the place 43
set_option maxRecDepth 100000 in
set_option maxHeartbeats 8000000 in
theorem f_90_43 (μ : wm_M) (Q : Option Value → wm_M → Prop) (h : wm_Wp 0 90 8 [.ref 59] μ Q) : wm_Wp 0 90 43 [.ref 59] μ Q := wn_vc mo_90 (rt := none) (by decide +kernel) mc_90 384 h
-- WindBoat$Tape.advance()V, the place 46
set_option maxRecDepth 100000 in
set_option maxHeartbeats 8000000 in
theorem f_90_46 (μ : wm_M) (Q : Option Value → wm_M → Prop) (h : wm_Wp 0 90 54 [.ref 59] (wm_si μ 59 7 (μ.1 59 6)) Q) : wm_Wp 0 90 46 [.ref 59] μ Q := wn_vc mo_90 (rt := none) (by decide +kernel) mc_90 384 h
-- WindBoat$Tape.advance()V, the place 54
set_option maxRecDepth 100000 in
set_option maxHeartbeats 8000000 in
theorem f_90_54 (μ : wm_M) (Q : Option Value → wm_M → Prop) (h : (((μ.1 59 6) = (μ.1 59 1) → wm_Wp 0 90 72 [.null] (wm_si μ 59 8 (128 : Int32)) Q) ∧ (¬ (μ.1 59 6) = (μ.1 59 1) → wm_Wp 0 90 75 [.ref 59] μ Q))) : wm_Wp 0 90 54 [.ref 59] μ Q := wn_vc mo_90 (rt := none) (by decide +kernel) mc_90 384 h
-- WindBoat$Tape.advance()V, the place 72
set_option maxRecDepth 100000 in
set_option maxHeartbeats 8000000 in
theorem f_90_72 (μ : wm_M) (Q : Option Value → wm_M → Prop) (h : wm_Wp 0 90 166 [.null] μ Q) : wm_Wp 0 90 72 [.null] μ Q := wn_vc mo_90 (rt := none) (by decide +kernel) mc_90 384 h
-- WindBoat$Tape.advance()V, the place 75
set_option maxRecDepth 100000 in
set_option maxHeartbeats 8000000 in
theorem f_90_75 (μ : wm_M) (Q : Option Value → wm_M → Prop) (h : (vp_in (μ.1 59 6) 120 ∧ wm_OkI 0 94 [.int (μ.1 60 ((μ.1 59 6)).toNatClampNeg)] μ (fun r2 μ1 => ((r2 = (0 : Int32) → wm_Wp 0 90 97 [.ref 59] μ1 Q) ∧ (¬ r2 = (0 : Int32) → wm_Wp 0 90 90 [.ref 59] μ1 Q))))) : wm_Wp 0 90 75 [.ref 59] μ Q := wn_vc mo_90 (rt := none) (by decide +kernel) mc_90 384 h
-- WindBoat$Tape.advance()V, the place 90
set_option maxRecDepth 100000 in
set_option maxHeartbeats 8000000 in
theorem f_90_90 (μ : wm_M) (Q : Option Value → wm_M → Prop) (h : wm_OkV 0 91 [.ref 59] μ (fun μ1 => wm_Wp 0 90 94 [.null] μ1 Q)) : wm_Wp 0 90 90 [.ref 59] μ Q := wn_vc mo_90 (rt := none) (by decide +kernel) mc_90 384 h
-- WindBoat$Tape.advance()V, the place 94
set_option maxRecDepth 100000 in
set_option maxHeartbeats 8000000 in
theorem f_90_94 (μ : wm_M) (Q : Option Value → wm_M → Prop) (h : wm_Wp 0 90 166 [.null] μ Q) : wm_Wp 0 90 94 [.null] μ Q := wn_vc mo_90 (rt := none) (by decide +kernel) mc_90 384 h
-- WindBoat$Tape.advance()V, the place 97
set_option maxRecDepth 100000 in
set_option maxHeartbeats 8000000 in
theorem f_90_97 (μ : wm_M) (Q : Option Value → wm_M → Prop) (h : (vp_in (μ.1 59 6) 120 ∧ wm_OkI 0 95 [.int (μ.1 60 ((μ.1 59 6)).toNatClampNeg)] μ (fun r2 μ1 => ((r2 = (0 : Int32) → wm_Wp 0 90 119 [.ref 59] μ1 Q) ∧ (¬ r2 = (0 : Int32) → wm_Wp 0 90 112 [.ref 59] μ1 Q))))) : wm_Wp 0 90 97 [.ref 59] μ Q := wn_vc mo_90 (rt := none) (by decide +kernel) mc_90 384 h
-- WindBoat$Tape.advance()V, the place 112
set_option maxRecDepth 100000 in
set_option maxHeartbeats 8000000 in
theorem f_90_112 (μ : wm_M) (Q : Option Value → wm_M → Prop) (h : wm_OkV 0 93 [.ref 59] μ (fun μ1 => wm_Wp 0 90 116 [.null] μ1 Q)) : wm_Wp 0 90 112 [.ref 59] μ Q := wn_vc mo_90 (rt := none) (by decide +kernel) mc_90 384 h
-- WindBoat$Tape.advance()V, the place 116
set_option maxRecDepth 100000 in
set_option maxHeartbeats 8000000 in
theorem f_90_116 (μ : wm_M) (Q : Option Value → wm_M → Prop) (h : wm_Wp 0 90 166 [.null] μ Q) : wm_Wp 0 90 116 [.null] μ Q := wn_vc mo_90 (rt := none) (by decide +kernel) mc_90 384 h
-- WindBoat$Tape.advance()V, the place 119
set_option maxRecDepth 100000 in
set_option maxHeartbeats 8000000 in
theorem f_90_119 (μ : wm_M) (Q : Option Value → wm_M → Prop) (h : wm_Wp 0 90 129 [.ref 59] (wm_si μ 59 7 ((μ.1 59 6) + (1 : Int32))) Q) : wm_Wp 0 90 119 [.ref 59] μ Q := wn_vc mo_90 (rt := none) (by decide +kernel) mc_90 384 h
-- WindBoat$Tape.advance()V, the place 129
set_option maxRecDepth 100000 in
set_option maxHeartbeats 8000000 in
theorem f_90_129 (μ : wm_M) (Q : Option Value → wm_M → Prop) (h : (vp_in (μ.1 59 6) 120 ∧ wm_OkI 0 323 [.ref 2001, .int (((μ.1 60 ((μ.1 59 6)).toNatClampNeg)).toUInt32 % 65536).toInt32] μ (fun r2 μ1 => ((r2 < (0 : Int32) → wm_Wp 0 90 166 [.null] (wm_si μ1 59 8 (130 : Int32)) Q) ∧ (¬ r2 < (0 : Int32) → (vp_in (μ1.1 59 6) 120 ∧ wm_Wp 0 90 166 [.null] (wm_si μ1 59 8 (μ1.1 60 ((μ1.1 59 6)).toNatClampNeg)) Q)))))) : wm_Wp 0 90 129 [.ref 59] μ Q := wn_vc mo_90 (rt := none) (by decide +kernel) mc_90 384 h
-- WindBoat$Tape.advance()V, the place 166
set_option maxRecDepth 100000 in
set_option maxHeartbeats 8000000 in
theorem f_90_166 (μ : wm_M) (Q : Option Value → wm_M → Prop) (h : Q none μ) : wm_Wp 0 90 166 [.null] μ Q := wn_vc mo_90 (rt := none) (by decide +kernel) mc_90 384 h
-- java/lang/String.coder()B
set_option maxRecDepth 100000 in
theorem v_325_0 (μ : wm_M) (Q : Option Value → wm_M → Prop) (h : (((1 : Int32) = (0 : Int32) → wm_Wp 0 325 13 [.null] μ Q) ∧ (¬ (1 : Int32) = (0 : Int32) → ((narrow .byte (.int (0 : Int32)) = .int (0 : Int32)) ∧ Q (some (.int (0 : Int32))) μ)))) : wm_Ok 0 325 [.ref 2000] μ Q := f_325_0  μ Q h
-- .. at 13
set_option maxRecDepth 100000 in
theorem w_325_13_0 (μ : wm_M) (Q : Option Value → wm_M → Prop) (h : ((narrow .byte (.int (1 : Int32)) = .int (1 : Int32)) ∧ Q (some (.int (1 : Int32))) μ)) : wm_Wp 0 325 13 [.null] μ Q := f_325_13_0  μ Q h
-- java/lang/String.coder()B
set_option maxRecDepth 100000 in
theorem v_325_1 (μ : wm_M) (Q : Option Value → wm_M → Prop) (h : (((1 : Int32) = (0 : Int32) → wm_Wp 0 325 13 [.null] μ Q) ∧ (¬ (1 : Int32) = (0 : Int32) → ((narrow .byte (.int (0 : Int32)) = .int (0 : Int32)) ∧ Q (some (.int (0 : Int32))) μ)))) : wm_Ok 0 325 [.ref 2001] μ Q := f_325_1  μ Q h
-- .. at 13
set_option maxRecDepth 100000 in
theorem w_325_13_1 (μ : wm_M) (Q : Option Value → wm_M → Prop) (h : ((narrow .byte (.int (1 : Int32)) = .int (1 : Int32)) ∧ Q (some (.int (1 : Int32))) μ)) : wm_Wp 0 325 13 [.null] μ Q := f_325_13_1  μ Q h
-- java/lang/String.isLatin1()Z
set_option maxRecDepth 100000 in
theorem v_326_0 (μ : wm_M) (Q : Option Value → wm_M → Prop) (h : (((1 : Int32) = (0 : Int32) → wm_Wp 0 326 17 [.null] μ Q) ∧ (¬ (1 : Int32) = (0 : Int32) → (((0 : Int32) = (0 : Int32) → (((1 : Int32) = 0 ∨ (1 : Int32) = 1) ∧ Q (some (.int (1 : Int32))) μ)) ∧ (¬ (0 : Int32) = (0 : Int32) → wm_Wp 0 326 17 [.null] μ Q))))) : wm_Ok 0 326 [.ref 2000] μ Q := f_326_0  μ Q h
-- .. at 17
set_option maxRecDepth 100000 in
theorem w_326_17_0 (μ : wm_M) (Q : Option Value → wm_M → Prop) (h : (((0 : Int32) = 0 ∨ (0 : Int32) = 1) ∧ Q (some (.int (0 : Int32))) μ)) : wm_Wp 0 326 17 [.null] μ Q := f_326_17_0  μ Q h
-- java/lang/String.isLatin1()Z
set_option maxRecDepth 100000 in
theorem v_326_1 (μ : wm_M) (Q : Option Value → wm_M → Prop) (h : (((1 : Int32) = (0 : Int32) → wm_Wp 0 326 17 [.null] μ Q) ∧ (¬ (1 : Int32) = (0 : Int32) → (((0 : Int32) = (0 : Int32) → (((1 : Int32) = 0 ∨ (1 : Int32) = 1) ∧ Q (some (.int (1 : Int32))) μ)) ∧ (¬ (0 : Int32) = (0 : Int32) → wm_Wp 0 326 17 [.null] μ Q))))) : wm_Ok 0 326 [.ref 2001] μ Q := f_326_1  μ Q h
-- .. at 17
set_option maxRecDepth 100000 in
theorem w_326_17_1 (μ : wm_M) (Q : Option Value → wm_M → Prop) (h : (((0 : Int32) = 0 ∨ (0 : Int32) = 1) ∧ Q (some (.int (0 : Int32))) μ)) : wm_Wp 0 326 17 [.null] μ Q := f_326_17_1  μ Q h
-- java/lang/String.length()I
set_option maxRecDepth 100000 in
theorem v_321_0 (μ : wm_M) (Q : Option Value → wm_M → Prop) (h : wm_OkI 0 325 [.ref 2000] μ (fun r2 μ1 => Q (some (.int ((Int32.ofNat 63) >>> (r2 &&& 31)))) μ1)) : wm_Ok 0 321 [.ref 2000] μ Q := f_321_0  μ Q h
-- java/lang/String.length()I
set_option maxRecDepth 100000 in
theorem v_321_1 (μ : wm_M) (Q : Option Value → wm_M → Prop) (h : wm_OkI 0 325 [.ref 2001] μ (fun r2 μ1 => Q (some (.int ((Int32.ofNat 10) >>> (r2 &&& 31)))) μ1)) : wm_Ok 0 321 [.ref 2001] μ Q := f_321_1  μ Q h
-- java/lang/StringLatin1.canEncode(I)Z
set_option maxRecDepth 100000 in
theorem v_330 (a0 : Int32) (μ : wm_M) (Q : Option Value → wm_M → Prop) (h : ((a0 < (0 : Int32) → wm_Wp 0 330 15 [.null] μ Q) ∧ (¬ a0 < (0 : Int32) → (((255 : Int32) < a0 → wm_Wp 0 330 15 [.null] μ Q) ∧ (¬ (255 : Int32) < a0 → (((1 : Int32) = 0 ∨ (1 : Int32) = 1) ∧ Q (some (.int (1 : Int32))) μ)))))) : wm_Ok 0 330 [.int a0] μ Q := f_330 a0 μ Q h
-- .. at 15
set_option maxRecDepth 100000 in
theorem w_330_15 (μ : wm_M) (Q : Option Value → wm_M → Prop) (h : (((0 : Int32) = 0 ∨ (0 : Int32) = 1) ∧ Q (some (.int (0 : Int32))) μ)) : wm_Wp 0 330 15 [.null] μ Q := f_330_15  μ Q h
-- java/lang/StringLatin1.indexOfChar([BIII)I
set_option maxRecDepth 100000 in
theorem v_332_1 (a1 : Int32) (a2 : Int32) (a3 : Int32) (μ : wm_M) (Q : Option Value → wm_M → Prop) (h : wm_Wp 0 332 7 [.ref 2011, .null, .null, .int a3, .int (a1).toInt8.toInt32, .int a2] μ Q) : wm_Ok 0 332 [.ref 2011, .int a1, .int a2, .int a3] μ Q := f_332_1 a1 a2 a3 μ Q h
-- .. at 7
set_option maxRecDepth 100000 in
theorem w_332_7_1 (x3 : Int32) (x4 : Int32) (x5 : Int32) (μ : wm_M) (Q : Option Value → wm_M → Prop) (h : ((x3 ≤ x5 → wm_Wp 0 332 31 [.null, .null, .null, .null, .null, .null] μ Q) ∧ (¬ x3 ≤ x5 → (vp_in x5 10 ∧ (((wm_S2.getD (x5).toNatClampNeg 0) = x4 → Q (some (.int x5)) μ) ∧ (¬ (wm_S2.getD (x5).toNatClampNeg 0) = x4 → wm_Wp 0 332 25 [.ref 2011, .null, .null, .int x3, .int x4, .int x5] μ Q)))))) : wm_Wp 0 332 7 [.ref 2011, .null, .null, .int x3, .int x4, .int x5] μ Q := f_332_7_1 x3 x4 x5 μ Q h
-- .. at 25
set_option maxRecDepth 100000 in
theorem w_332_25_1 (x3 : Int32) (x4 : Int32) (x5 : Int32) (μ : wm_M) (Q : Option Value → wm_M → Prop) (h : wm_Wp 0 332 7 [.ref 2011, .null, .null, .int x3, .int x4, .int (x5 + (1 : Int32))] μ Q) : wm_Wp 0 332 25 [.ref 2011, .null, .null, .int x3, .int x4, .int x5] μ Q := f_332_25_1 x3 x4 x5 μ Q h
-- .. at 31
set_option maxRecDepth 100000 in
theorem w_332_31_1 (μ : wm_M) (Q : Option Value → wm_M → Prop) (h : Q (some (.int (-1 : Int32))) μ) : wm_Wp 0 332 31 [.null, .null, .null, .null, .null, .null] μ Q := f_332_31_1  μ Q h
-- java/lang/StringLatin1.indexOf([BIII)I
set_option maxRecDepth 100000 in
theorem v_331_1 (a1 : Int32) (a2 : Int32) (a3 : Int32) (μ : wm_M) (Q : Option Value → wm_M → Prop) (h : wm_OkI 0 330 [.int a1] μ (fun r2 μ1 => ((r2 = (0 : Int32) → Q (some (.int (-1 : Int32))) μ1) ∧ (¬ r2 = (0 : Int32) → wm_Wp 0 331 9 [.ref 2011, .int a1, .int a2, .int a3] μ1 Q)))) : wm_Ok 0 331 [.ref 2011, .int a1, .int a2, .int a3] μ Q := f_331_1 a1 a2 a3 μ Q (wm_OkI.mono h (fun r2 μ1 h2 => ⟨fun c1 => (f_331_7_1  μ1 Q (h2.1 c1)), fun c1 => (h2.2 c1)⟩))
-- .. at 9
set_option maxRecDepth 100000 in
theorem w_331_9_1 (x1 : Int32) (x2 : Int32) (x3 : Int32) (μ : wm_M) (Q : Option Value → wm_M → Prop) (h : (((if x2 < (0 : Int32) then (0 : Int32) else x2) < (if (Int32.ofNat 10) < x3 then (Int32.ofNat 10) else x3) → wm_Wp 0 331 29 [.ref 2011, .int x1, .int (if x2 < (0 : Int32) then (0 : Int32) else x2), .int (if (Int32.ofNat 10) < x3 then (Int32.ofNat 10) else x3)] μ Q) ∧ (¬ (if x2 < (0 : Int32) then (0 : Int32) else x2) < (if (Int32.ofNat 10) < x3 then (Int32.ofNat 10) else x3) → Q (some (.int (-1 : Int32))) μ))) : wm_Wp 0 331 9 [.ref 2011, .int x1, .int x2, .int x3] μ Q := f_331_9_1 x1 x2 x3 μ Q (f_331_15_1 x1 (if x2 < (0 : Int32) then (0 : Int32) else x2) x3 μ Q (f_331_22_1 x1 (if x2 < (0 : Int32) then (0 : Int32) else x2) (if (Int32.ofNat 10) < x3 then (Int32.ofNat 10) else x3) μ Q h))
-- .. at 29
set_option maxRecDepth 100000 in
theorem w_331_29_1 (x1 : Int32) (x2 : Int32) (x3 : Int32) (μ : wm_M) (Q : Option Value → wm_M → Prop) (h : wm_OkI 0 332 [.ref 2011, .int x1, .int x2, .int x3] μ (fun r2 μ1 => Q (some (.int r2)) μ1)) : wm_Wp 0 331 29 [.ref 2011, .int x1, .int x2, .int x3] μ Q := f_331_29_1 x1 x2 x3 μ Q h
-- java/lang/String.indexOf(II)I
set_option maxRecDepth 100000 in
theorem v_324_1 (a1 : Int32) (a2 : Int32) (μ : wm_M) (Q : Option Value → wm_M → Prop) (h : wm_OkI 0 326 [.ref 2001] μ (fun r2 μ1 => ((r2 = (0 : Int32) → wm_Wp 0 324 23 [.ref 2001, .int a1, .int a2] μ1 Q) ∧ (¬ r2 = (0 : Int32) → wm_OkI 0 321 [.ref 2001] μ1 (fun r4 μ3 => wm_OkI 0 331 [.ref 2011, .int a1, .int a2, .int r4] μ3 (fun r6 μ5 => Q (some (.int r6)) μ5)))))) : wm_Ok 0 324 [.ref 2001, .int a1, .int a2] μ Q := f_324_1 a1 a2 μ Q (wm_OkI.mono h (fun r2 μ1 h2 => ⟨fun c1 => (h2.1 c1), fun c1 => (f_324_7_1 a1 a2 μ1 Q (h2.2 c1))⟩))
-- .. at 23
set_option maxRecDepth 100000 in
theorem w_324_23_1 (x1 : Int32) (x2 : Int32) (μ : wm_M) (Q : Option Value → wm_M → Prop) (h : wm_OkI 0 321 [.ref 2001] μ (fun r2 μ1 => wm_OkI 0 335 [.ref 2011, .int x1, .int x2, .int r2] μ1 (fun r4 μ3 => Q (some (.int r4)) μ3))) : wm_Wp 0 324 23 [.ref 2001, .int x1, .int x2] μ Q := f_324_23_1 x1 x2 μ Q h
-- java/lang/String.indexOf(I)I
set_option maxRecDepth 100000 in
theorem v_323_1 (a1 : Int32) (μ : wm_M) (Q : Option Value → wm_M → Prop) (h : wm_OkI 0 324 [.ref 2001, .int a1, .int (0 : Int32)] μ (fun r2 μ1 => Q (some (.int r2)) μ1)) : wm_Ok 0 323 [.ref 2001, .int a1] μ Q := f_323_1 a1 μ Q h
-- java/lang/StringLatin1.charAt([BI)C
set_option maxRecDepth 100000 in
theorem v_329_0 (a1 : Int32) (μ : wm_M) (Q : Option Value → wm_M → Prop) (h : wm_OkV 0 327 [.int a1, .int (Int32.ofNat 63)] μ (fun μ1 => (vp_in a1 63 ∧ ((narrow .char (.int ((((wm_S1.getD (a1).toNatClampNeg 0) &&& (255 : Int32))).toUInt32 % 65536).toInt32) = .int ((((wm_S1.getD (a1).toNatClampNeg 0) &&& (255 : Int32))).toUInt32 % 65536).toInt32) ∧ Q (some (.int ((((wm_S1.getD (a1).toNatClampNeg 0) &&& (255 : Int32))).toUInt32 % 65536).toInt32)) μ1)))) : wm_Ok 0 329 [.ref 2010, .int a1] μ Q := f_329_0 a1 μ Q (wm_OkV.mono h (fun μ1 h1 => (f_329_6_0 a1 μ1 Q h1)))
-- java/lang/String.charAt(I)C
set_option maxRecDepth 100000 in
theorem v_322_0 (a1 : Int32) (μ : wm_M) (Q : Option Value → wm_M → Prop) (h : wm_OkI 0 326 [.ref 2000] μ (fun r2 μ1 => ((r2 = (0 : Int32) → wm_Wp 0 322 16 [.ref 2000, .int a1] μ1 Q) ∧ (¬ r2 = (0 : Int32) → wm_OkI 0 329 [.ref 2010, .int a1] μ1 (fun r4 μ3 => ((narrow .char (.int (r4)) = .int (r4)) ∧ Q (some (.int r4)) μ3)))))) : wm_Ok 0 322 [.ref 2000, .int a1] μ Q := f_322_0 a1 μ Q (wm_OkI.mono h (fun r2 μ1 h2 => ⟨fun c1 => (h2.1 c1), fun c1 => (f_322_7_0 a1 μ1 Q (h2.2 c1))⟩))
-- .. at 16
set_option maxRecDepth 100000 in
theorem w_322_16_0 (x1 : Int32) (μ : wm_M) (Q : Option Value → wm_M → Prop) (h : wm_OkI 0 339 [.ref 2010, .int x1] μ (fun r2 μ1 => ((narrow .char (.int (r2)) = .int (r2)) ∧ Q (some (.int r2)) μ1))) : wm_Wp 0 322 16 [.ref 2000, .int x1] μ Q := f_322_16_0 x1 μ Q h
-- WindBoat$Tape.isSpelt(I)Z
set_option maxRecDepth 100000 in
theorem v_92 (a1 : Int32) (μ : wm_M) (Q : Option Value → wm_M → Prop) (h : wm_Wp 0 92 5 [.ref 59, .int a1, .int (μ.1 59 6)] μ Q) : wm_Ok 0 92 [.ref 59, .int a1] μ Q := f_92 a1 μ Q h
-- .. at 5
set_option maxRecDepth 100000 in
theorem w_92_5 (x1 : Int32) (x2 : Int32) (μ : wm_M) (Q : Option Value → wm_M → Prop) (h : (((μ.1 59 7) ≤ x2 → wm_Wp 0 92 43 [.null, .null, .null] μ Q) ∧ (¬ (μ.1 59 7) ≤ x2 → (vp_in x2 120 ∧ wm_OkI 0 322 [.ref 2000, .int ((x1 + x2) - (μ.1 59 6))] μ (fun r2 μ1 => (((μ.1 60 (x2).toNatClampNeg) = r2 → wm_Wp 0 92 37 [.ref 59, .int x1, .int x2] μ1 Q) ∧ (¬ (μ.1 60 (x2).toNatClampNeg) = r2 → (((0 : Int32) = 0 ∨ (0 : Int32) = 1) ∧ Q (some (.int (0 : Int32))) μ1)))))))) : wm_Wp 0 92 5 [.ref 59, .int x1, .int x2] μ Q := f_92_5 x1 x2 μ Q ⟨fun c4 => (h.1 c4), fun c4 => ⟨(h.2 c4).1, (wm_OkI.mono (h.2 c4).2 (fun r2 μ1 h2 => ⟨fun c1 => (h2.1 c1), fun c1 => (f_92_35  μ1 Q (h2.2 c1))⟩))⟩⟩
-- .. at 37
set_option maxRecDepth 100000 in
theorem w_92_37 (x1 : Int32) (x2 : Int32) (μ : wm_M) (Q : Option Value → wm_M → Prop) (h : wm_Wp 0 92 5 [.ref 59, .int x1, .int (x2 + (1 : Int32))] μ Q) : wm_Wp 0 92 37 [.ref 59, .int x1, .int x2] μ Q := f_92_37 x1 x2 μ Q h
-- .. at 43
set_option maxRecDepth 100000 in
theorem w_92_43 (μ : wm_M) (Q : Option Value → wm_M → Prop) (h : (((1 : Int32) = 0 ∨ (1 : Int32) = 1) ∧ Q (some (.int (1 : Int32))) μ)) : wm_Wp 0 92 43 [.null, .null, .null] μ Q := f_92_43  μ Q h
-- WindBoat$Tape.advanceByWord()V
set_option maxRecDepth 100000 in
theorem v_91 (μ : wm_M) (Q : Option Value → wm_M → Prop) (h : wm_Wp 0 91 0 [.ref 59, .null, .null, .null] μ Q) : wm_Ok 0 91 [.ref 59] μ Q := f_91  μ Q h
-- .. at 0
set_option maxRecDepth 100000 in
theorem w_91_0 (μ : wm_M) (Q : Option Value → wm_M → Prop) (h : (((μ.1 59 1) ≤ (μ.1 59 7) → wm_Wp 0 91 39 [.ref 59, .null, .null, .null] μ Q) ∧ (¬ (μ.1 59 1) ≤ (μ.1 59 7) → (vp_in (μ.1 59 7) 120 ∧ wm_OkI 0 94 [.int (μ.1 60 ((μ.1 59 7)).toNatClampNeg)] μ (fun r2 μ1 => ((r2 = (0 : Int32) → wm_Wp 0 91 39 [.ref 59, .null, .null, .null] μ1 Q) ∧ (¬ r2 = (0 : Int32) → wm_Wp 0 91 0 [.ref 59, .null, .null, .null] (wm_si μ1 59 7 ((μ1.1 59 7) + (1 : Int32))) Q))))))) : wm_Wp 0 91 0 [.ref 59, .null, .null, .null] μ Q := f_91_0  μ Q ⟨fun c4 => (h.1 c4), fun c4 => ⟨(h.2 c4).1, (wm_OkI.mono (h.2 c4).2 (fun r2 μ1 h2 => ⟨fun c1 => (h2.1 c1), fun c1 => (f_91_26  μ1 Q (f_91_36  (wm_si μ1 59 7 ((μ1.1 59 7) + (1 : Int32))) Q (h2.2 c1)))⟩))⟩⟩
-- .. at 39
set_option maxRecDepth 100000 in
theorem w_91_39 (μ : wm_M) (Q : Option Value → wm_M → Prop) (h : wm_Wp 0 91 52 [.ref 59, .int (0 : Int32), .int (0 : Int32), .int (0 : Int32)] (wm_si μ 59 8 (130 : Int32)) Q) : wm_Wp 0 91 39 [.ref 59, .null, .null, .null] μ Q := f_91_39  μ Q (f_91_46  (wm_si μ 59 8 (130 : Int32)) Q h)
-- .. at 52
set_option maxRecDepth 100000 in
theorem w_91_52 (x1 : Int32) (x2 : Int32) (x3 : Int32) (μ : wm_M) (Q : Option Value → wm_M → Prop) (h : wm_OkI 0 321 [.ref 2000] μ (fun r2 μ1 => ((r2 ≤ x3 → wm_Wp 0 91 114 [.null, .null, .null, .null] μ1 Q) ∧ (¬ r2 ≤ x3 → wm_OkI 0 322 [.ref 2000, .int x3] μ1 (fun r4 μ3 => ((r4 = (32 : Int32) → (((x3 - x2) = ((μ3.1 59 7) - (μ3.1 59 6)) → wm_OkI 0 92 [.ref 59, .int x2] μ3 (fun r6 μ5 => ((r6 = (0 : Int32) → wm_Wp 0 91 101 [.ref 59, .int x1, .null, .int x3] μ5 Q) ∧ (¬ r6 = (0 : Int32) → Q none (wm_si μ5 59 8 x1))))) ∧ (¬ (x3 - x2) = ((μ3.1 59 7) - (μ3.1 59 6)) → wm_Wp 0 91 101 [.ref 59, .int x1, .null, .int x3] μ3 Q))) ∧ (¬ r4 = (32 : Int32) → wm_Wp 0 91 108 [.ref 59, .int x1, .int x2, .int x3] μ3 Q))))))) : wm_Wp 0 91 52 [.ref 59, .int x1, .int x2, .int x3] μ Q := f_91_52 x1 x2 x3 μ Q (wm_OkI.mono h (fun r2 μ1 h7 => ⟨fun c6 => (h7.1 c6), fun c6 => (f_91_61 x1 x2 x3 μ1 Q (wm_OkI.mono (h7.2 c6) (fun r4 μ3 h5 => ⟨fun c4 => (f_91_72 x1 x2 x3 μ3 Q ⟨fun c3 => (wm_OkI.mono ((h5.1 c4).1 c3) (fun r6 μ5 h2 => ⟨fun c1 => (h2.1 c1), fun c1 => (f_91_95 x1 μ5 Q (f_91_100  (wm_si μ5 59 8 x1) Q (h2.2 c1)))⟩)), fun c3 => ((h5.1 c4).2 c3)⟩), fun c4 => (h5.2 c4)⟩)))⟩))
-- .. at 101
set_option maxRecDepth 100000 in
theorem w_91_101 (x1 : Int32) (x3 : Int32) (μ : wm_M) (Q : Option Value → wm_M → Prop) (h : wm_Wp 0 91 108 [.ref 59, .int (x1 + (1 : Int32)), .int (x3 + (1 : Int32)), .int x3] μ Q) : wm_Wp 0 91 101 [.ref 59, .int x1, .null, .int x3] μ Q := f_91_101 x1 x3 μ Q h
-- .. at 108
set_option maxRecDepth 100000 in
theorem w_91_108 (x1 : Int32) (x2 : Int32) (x3 : Int32) (μ : wm_M) (Q : Option Value → wm_M → Prop) (h : wm_Wp 0 91 52 [.ref 59, .int x1, .int x2, .int (x3 + (1 : Int32))] μ Q) : wm_Wp 0 91 108 [.ref 59, .int x1, .int x2, .int x3] μ Q := f_91_108 x1 x2 x3 μ Q h
-- .. at 114
set_option maxRecDepth 100000 in
theorem w_91_114 (μ : wm_M) (Q : Option Value → wm_M → Prop) (h : Q none μ) : wm_Wp 0 91 114 [.null, .null, .null, .null] μ Q := f_91_114  μ Q h
-- WindBoat$Tape.advance()V
set_option maxRecDepth 100000 in
theorem v_90 (μ : wm_M) (Q : Option Value → wm_M → Prop) (h : wm_Wp 0 90 8 [.ref 59] (wm_si μ 59 6 (μ.1 59 7)) Q) : wm_Ok 0 90 [.ref 59] μ Q := f_90  μ Q h
-- .. at 8
set_option maxRecDepth 100000 in
theorem w_90_8 (μ : wm_M) (Q : Option Value → wm_M → Prop) (h : (((μ.1 59 1) ≤ (μ.1 59 6) → wm_Wp 0 90 46 [.ref 59] μ Q) ∧ (¬ (μ.1 59 1) ≤ (μ.1 59 6) → (vp_in (μ.1 59 6) 120 ∧ (((μ.1 60 ((μ.1 59 6)).toNatClampNeg) = (32 : Int32) → wm_Wp 0 90 8 [.ref 59] (wm_si μ 59 6 ((μ.1 59 6) + (1 : Int32))) Q) ∧ (¬ (μ.1 60 ((μ.1 59 6)).toNatClampNeg) = (32 : Int32) → wm_Wp 0 90 46 [.ref 59] μ Q)))))) : wm_Wp 0 90 8 [.ref 59] μ Q := f_90_8  μ Q ⟨fun c3 => (h.1 c3), fun c3 => ⟨(h.2 c3).1, ⟨fun c1 => (f_90_33  μ Q (f_90_43  (wm_si μ 59 6 ((μ.1 59 6) + (1 : Int32))) Q ((h.2 c3).2.1 c1))), fun c1 => ((h.2 c3).2.2 c1)⟩⟩⟩
-- .. at 46
set_option maxRecDepth 100000 in
theorem w_90_46 (μ : wm_M) (Q : Option Value → wm_M → Prop) (h : ((((wm_si μ 59 7 (μ.1 59 6)).1 59 6) = ((wm_si μ 59 7 (μ.1 59 6)).1 59 1) → wm_Wp 0 90 166 [.null] (wm_si (wm_si μ 59 7 (μ.1 59 6)) 59 8 (128 : Int32)) Q) ∧ (¬ ((wm_si μ 59 7 (μ.1 59 6)).1 59 6) = ((wm_si μ 59 7 (μ.1 59 6)).1 59 1) → wm_Wp 0 90 75 [.ref 59] (wm_si μ 59 7 (μ.1 59 6)) Q))) : wm_Wp 0 90 46 [.ref 59] μ Q := f_90_46  μ Q (f_90_54  (wm_si μ 59 7 (μ.1 59 6)) Q ⟨fun c1 => (f_90_72  (wm_si (wm_si μ 59 7 (μ.1 59 6)) 59 8 (128 : Int32)) Q (h.1 c1)), fun c1 => (h.2 c1)⟩)
-- .. at 75
set_option maxRecDepth 100000 in
theorem w_90_75 (μ : wm_M) (Q : Option Value → wm_M → Prop) (h : (vp_in (μ.1 59 6) 120 ∧ wm_OkI 0 94 [.int (μ.1 60 ((μ.1 59 6)).toNatClampNeg)] μ (fun r2 μ1 => ((r2 = (0 : Int32) → wm_Wp 0 90 97 [.ref 59] μ1 Q) ∧ (¬ r2 = (0 : Int32) → wm_OkV 0 91 [.ref 59] μ1 (fun μ3 => wm_Wp 0 90 166 [.null] μ3 Q)))))) : wm_Wp 0 90 75 [.ref 59] μ Q := f_90_75  μ Q ⟨h.1, (wm_OkI.mono h.2 (fun r2 μ1 h3 => ⟨fun c2 => (h3.1 c2), fun c2 => (f_90_90  μ1 Q (wm_OkV.mono (h3.2 c2) (fun μ3 h1 => (f_90_94  μ3 Q h1))))⟩))⟩
-- .. at 97
set_option maxRecDepth 100000 in
theorem w_90_97 (μ : wm_M) (Q : Option Value → wm_M → Prop) (h : (vp_in (μ.1 59 6) 120 ∧ wm_OkI 0 95 [.int (μ.1 60 ((μ.1 59 6)).toNatClampNeg)] μ (fun r2 μ1 => ((r2 = (0 : Int32) → wm_Wp 0 90 119 [.ref 59] μ1 Q) ∧ (¬ r2 = (0 : Int32) → wm_OkV 0 93 [.ref 59] μ1 (fun μ3 => wm_Wp 0 90 166 [.null] μ3 Q)))))) : wm_Wp 0 90 97 [.ref 59] μ Q := f_90_97  μ Q ⟨h.1, (wm_OkI.mono h.2 (fun r2 μ1 h3 => ⟨fun c2 => (h3.1 c2), fun c2 => (f_90_112  μ1 Q (wm_OkV.mono (h3.2 c2) (fun μ3 h1 => (f_90_116  μ3 Q h1))))⟩))⟩
-- .. at 119
set_option maxRecDepth 100000 in
theorem w_90_119 (μ : wm_M) (Q : Option Value → wm_M → Prop) (h : (vp_in ((wm_si μ 59 7 ((μ.1 59 6) + (1 : Int32))).1 59 6) 120 ∧ wm_OkI 0 323 [.ref 2001, .int ((((wm_si μ 59 7 ((μ.1 59 6) + (1 : Int32))).1 60 (((wm_si μ 59 7 ((μ.1 59 6) + (1 : Int32))).1 59 6)).toNatClampNeg)).toUInt32 % 65536).toInt32] (wm_si μ 59 7 ((μ.1 59 6) + (1 : Int32))) (fun r2 μ1 => ((r2 < (0 : Int32) → wm_Wp 0 90 166 [.null] (wm_si μ1 59 8 (130 : Int32)) Q) ∧ (¬ r2 < (0 : Int32) → (vp_in (μ1.1 59 6) 120 ∧ wm_Wp 0 90 166 [.null] (wm_si μ1 59 8 (μ1.1 60 ((μ1.1 59 6)).toNatClampNeg)) Q)))))) : wm_Wp 0 90 119 [.ref 59] μ Q := f_90_119  μ Q (f_90_129  (wm_si μ 59 7 ((μ.1 59 6) + (1 : Int32))) Q h)
-- .. at 166
set_option maxRecDepth 100000 in
theorem w_90_166 (μ : wm_M) (Q : Option Value → wm_M → Prop) (h : Q none μ) : wm_Wp 0 90 166 [.null] μ Q := f_90_166  μ Q h
