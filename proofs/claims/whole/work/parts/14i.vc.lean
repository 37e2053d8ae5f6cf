/-! ===== what each block of code asks (printed by wip/gen/genvc.py) ===== -/
-- WindBoatModel.byTwo(IIII)Z
set_option maxRecDepth 100000 in
set_option maxHeartbeats 8000000 in
theorem v_286 (a1 : Int32) (a2 : Int32) (a3 : Int32) (a4 : Int32) (μ : wm_M) (Q : Option Value → wm_M → Prop) (h : wm_OkV 0 284 [.ref 89] μ (fun μ1 => wm_OkJ 0 281 [.ref 89, .int a2, .int a4] μ1 (fun r3 μ2 => wm_OkJ 0 281 [.ref 89, .int a2, .int a3] μ2 (fun r5 μ4 => (vp_in a1 3 ∧ wm_OkJ 0 281 [.ref 89, .int a1, .int a3] (wm_sl μ4 107 (a1).toNatClampNeg (r3 - r5)) (fun r7 μ6 => wm_OkJ 0 281 [.ref 89, .int a1, .int a4] μ6 (fun r9 μ8 => (vp_in a2 3 ∧ wm_OkJ 0 281 [.ref 89, .int a2, .int a4] (wm_sl μ8 107 (a2).toNatClampNeg (r7 - r9)) (fun r11 μ10 => wm_OkJ 0 281 [.ref 89, .int a1, .int a4] μ10 (fun r13 μ12 => (vp_in a3 3 ∧ wm_OkJ 0 281 [.ref 89, .int a1, .int a3] (wm_sl μ12 108 (a3).toNatClampNeg (r11 - r13)) (fun r15 μ14 => wm_OkJ 0 281 [.ref 89, .int a2, .int a3] μ14 (fun r17 μ16 => (vp_in a4 3 ∧ wm_OkJ 0 281 [.ref 89, .int a1, .int a3] (wm_sl μ16 108 (a4).toNatClampNeg (r15 - r17)) (fun r19 μ18 => wm_OkJ 0 281 [.ref 89, .int a2, .int a4] μ18 (fun r21 μ20 => wm_OkJ 0 281 [.ref 89, .int a1, .int a4] μ20 (fun r23 μ22 => wm_OkJ 0 281 [.ref 89, .int a2, .int a3] μ22 (fun r25 μ24 => (vp_in a1 3 ∧ (vp_in a2 3 ∧ wm_OkI 0 283 [.ref 89] (wm_sl (wm_sl μ24 89 40 ((r19 * r21) - (r23 * r25))) 89 41 (((wm_sl μ24 89 40 ((r19 * r21) - (r23 * r25))).2 107 (a1).toNatClampNeg) + ((wm_sl μ24 89 40 ((r19 * r21) - (r23 * r25))).2 107 (a2).toNatClampNeg))) (fun r27 μ26 => ((r27 = 0 ∨ r27 = 1) ∧ Q (some (.int r27)) μ26)))))))))))))))))))))) : wm_Ok 0 286 [.ref 89, .int a1, .int a2, .int a3, .int a4] μ Q := wm_ent (nL := 5) (l := [.ref 89, .int a1, .int a2, .int a3, .int a4]) (by decide +kernel) (by decide +kernel) (by decide +kernel) rfl rfl (wm_vc mo_286 (rt := some .boolean) (by decide +kernel) mc_286 198 h)
-- WindBoatModel.cofactor(II)J
set_option maxRecDepth 100000 in
set_option maxHeartbeats 8000000 in
theorem v_287 (a1 : Int32) (a2 : Int32) (μ : wm_M) (Q : Option Value → wm_M → Prop) (h : (¬ (3 : Int32) = 0 ∧ (¬ (3 : Int32) = 0 ∧ (¬ (3 : Int32) = 0 ∧ (¬ (3 : Int32) = 0 ∧ wm_OkJ 0 281 [.ref 89, .int ((a1 + (1 : Int32)) - (a1 + (1 : Int32)) / (3 : Int32) * (3 : Int32)), .int ((a2 + (1 : Int32)) - (a2 + (1 : Int32)) / (3 : Int32) * (3 : Int32))] μ (fun r2 μ1 => wm_OkJ 0 281 [.ref 89, .int ((a1 + (2 : Int32)) - (a1 + (2 : Int32)) / (3 : Int32) * (3 : Int32)), .int ((a2 + (2 : Int32)) - (a2 + (2 : Int32)) / (3 : Int32) * (3 : Int32))] μ1 (fun r4 μ3 => wm_OkJ 0 281 [.ref 89, .int ((a1 + (1 : Int32)) - (a1 + (1 : Int32)) / (3 : Int32) * (3 : Int32)), .int ((a2 + (2 : Int32)) - (a2 + (2 : Int32)) / (3 : Int32) * (3 : Int32))] μ3 (fun r6 μ5 => wm_OkJ 0 281 [.ref 89, .int ((a1 + (2 : Int32)) - (a1 + (2 : Int32)) / (3 : Int32) * (3 : Int32)), .int ((a2 + (1 : Int32)) - (a2 + (1 : Int32)) / (3 : Int32) * (3 : Int32))] μ5 (fun r8 μ7 => Q (some (.long ((r2 * r4) - (r6 * r8)))) μ7))))))))) : wm_Ok 0 287 [.ref 89, .int a1, .int a2] μ Q := wm_ent (nL := 7) (l := [.ref 89, .int a1, .int a2, .null, .null, .null, .null]) (by decide +kernel) (by decide +kernel) (by decide +kernel) rfl rfl (wm_vc mo_287 (rt := some .long) (by decide +kernel) mc_287 108 h)
-- WindBoatModel.byThree()Z
set_option maxRecDepth 100000 in
set_option maxHeartbeats 8000000 in
theorem v_288 (μ : wm_M) (Q : Option Value → wm_M → Prop) (h : wm_OkV 0 284 [.ref 89] μ (fun μ1 => wm_Wp 0 288 16 [.ref 89, .int (0 : Int32), .null] (wm_sl (wm_sl μ1 89 41 (0 : Int64)) 89 40 (0 : Int64)) Q)) : wm_Ok 0 288 [.ref 89] μ Q := wm_ent (nL := 3) (l := [.ref 89, .null, .null]) (by decide +kernel) (by decide +kernel) (by decide +kernel) rfl rfl (wm_vc mo_288 (rt := some .boolean) (by decide +kernel) mc_288 160 h)
-- WindBoatModel.byThree()Z, the place 16
set_option maxRecDepth 100000 in
set_option maxHeartbeats 8000000 in
theorem w_288_16 (x1 : Int32) (μ : wm_M) (Q : Option Value → wm_M → Prop) (h : (((3 : Int32) ≤ x1 → wm_Wp 0 288 107 [.ref 89, .null, .null] μ Q) ∧ (¬ (3 : Int32) ≤ x1 → wm_Wp 0 288 23 [.ref 89, .int x1, .int (0 : Int32)] μ Q))) : wm_Wp 0 288 16 [.ref 89, .int x1, .null] μ Q := wm_vc mo_288 (rt := some .boolean) (by decide +kernel) mc_288 160 h
-- WindBoatModel.byThree()Z, the place 23
set_option maxRecDepth 100000 in
set_option maxHeartbeats 8000000 in
theorem w_288_23 (x1 : Int32) (x2 : Int32) (μ : wm_M) (Q : Option Value → wm_M → Prop) (h : (((3 : Int32) ≤ x2 → wm_Wp 0 288 79 [.ref 89, .int x1, .null] μ Q) ∧ (¬ (3 : Int32) ≤ x2 → (vp_in x1 3 ∧ wm_OkJ 0 287 [.ref 89, .int x1, .int x2] μ (fun r2 μ1 => (vp_in x1 3 ∧ (vp_in x2 3 ∧ wm_OkJ 0 287 [.ref 89, .int x1, .int x2] (wm_sl μ1 107 (x1).toNatClampNeg ((μ.2 107 (x1).toNatClampNeg) + r2)) (fun r4 μ3 => (vp_in x2 3 ∧ wm_OkJ 0 287 [.ref 89, .int x1, .int x2] (wm_sl μ3 108 (x2).toNatClampNeg (((wm_sl μ1 107 (x1).toNatClampNeg ((μ.2 107 (x1).toNatClampNeg) + r2)).2 108 (x2).toNatClampNeg) + r4)) (fun r6 μ5 => wm_Wp 0 288 23 [.ref 89, .int x1, .int (x2 + (1 : Int32))] (wm_sl μ5 89 41 (((wm_sl μ3 108 (x2).toNatClampNeg (((wm_sl μ1 107 (x1).toNatClampNeg ((μ.2 107 (x1).toNatClampNeg) + r2)).2 108 (x2).toNatClampNeg) + r4)).2 89 41) + r6)) Q)))))))))) : wm_Wp 0 288 23 [.ref 89, .int x1, .int x2] μ Q := wm_vc mo_288 (rt := some .boolean) (by decide +kernel) mc_288 160 h
-- WindBoatModel.byThree()Z, the place 79
set_option maxRecDepth 100000 in
set_option maxHeartbeats 8000000 in
theorem w_288_79 (x1 : Int32) (μ : wm_M) (Q : Option Value → wm_M → Prop) (h : wm_OkJ 0 281 [.ref 89, .int (0 : Int32), .int x1] μ (fun r2 μ1 => wm_OkJ 0 287 [.ref 89, .int (0 : Int32), .int x1] μ1 (fun r4 μ3 => wm_Wp 0 288 16 [.ref 89, .int (x1 + (1 : Int32)), .null] (wm_sl μ3 89 40 ((μ.2 89 40) + (r2 * r4))) Q))) : wm_Wp 0 288 79 [.ref 89, .int x1, .null] μ Q := wm_vc mo_288 (rt := some .boolean) (by decide +kernel) mc_288 160 h
-- WindBoatModel.byThree()Z, the place 107
set_option maxRecDepth 100000 in
set_option maxHeartbeats 8000000 in
theorem w_288_107 (μ : wm_M) (Q : Option Value → wm_M → Prop) (h : wm_OkI 0 283 [.ref 89] μ (fun r2 μ1 => ((r2 = 0 ∨ r2 = 1) ∧ Q (some (.int r2)) μ1))) : wm_Wp 0 288 107 [.ref 89, .null, .null] μ Q := wm_vc mo_288 (rt := some .boolean) (by decide +kernel) mc_288 160 h
-- WindBoatModel.isSolved()Z
set_option maxRecDepth 100000 in
set_option maxHeartbeats 8000000 in
theorem v_289 (μ : wm_M) (Q : Option Value → wm_M → Prop) (h : wm_Wp 0 289 2 [.ref 89, .int (0 : Int32), .null, .null, .null] μ Q) : wm_Ok 0 289 [.ref 89] μ Q := wm_ent (nL := 5) (l := [.ref 89, .null, .null, .null, .null]) (by decide +kernel) (by decide +kernel) (by decide +kernel) rfl rfl (wm_vc mo_289 (rt := some .boolean) (by decide +kernel) mc_289 178 h)
-- WindBoatModel.isSolved()Z, the place 2
set_option maxRecDepth 100000 in
set_option maxHeartbeats 8000000 in
theorem w_289_2 (x1 : Int32) (μ : wm_M) (Q : Option Value → wm_M → Prop) (h : (((μ.1 89 39) ≤ x1 → wm_Wp 0 289 43 [.ref 89, .null, .null, .null, .null] μ Q) ∧ (¬ (μ.1 89 39) ≤ x1 → wm_Wp 0 289 12 [.ref 89, .int x1, .int (0 : Int32), .null, .null] μ Q))) : wm_Wp 0 289 2 [.ref 89, .int x1, .null, .null, .null] μ Q := wm_vc mo_289 (rt := some .boolean) (by decide +kernel) mc_289 178 h
-- WindBoatModel.isSolved()Z, the place 12
set_option maxRecDepth 100000 in
set_option maxHeartbeats 8000000 in
theorem w_289_12 (x1 : Int32) (x2 : Int32) (μ : wm_M) (Q : Option Value → wm_M → Prop) (h : (((μ.1 89 39) ≤ x2 → wm_Wp 0 289 37 [.ref 89, .int x1, .null, .null, .null] μ Q) ∧ (¬ (μ.1 89 39) ≤ x2 → wm_OkI 0 285 [.ref 89, .int x1, .int x2] μ (fun r2 μ1 => ((r2 = (0 : Int32) → wm_Wp 0 289 31 [.ref 89, .int x1, .int x2, .null, .null] μ1 Q) ∧ (¬ r2 = (0 : Int32) → (((1 : Int32) = 0 ∨ (1 : Int32) = 1) ∧ Q (some (.int (1 : Int32))) μ1))))))) : wm_Wp 0 289 12 [.ref 89, .int x1, .int x2, .null, .null] μ Q := wm_vc mo_289 (rt := some .boolean) (by decide +kernel) mc_289 178 h
-- WindBoatModel.isSolved()Z, the place 31
set_option maxRecDepth 100000 in
set_option maxHeartbeats 8000000 in
theorem w_289_31 (x1 : Int32) (x2 : Int32) (μ : wm_M) (Q : Option Value → wm_M → Prop) (h : wm_Wp 0 289 12 [.ref 89, .int x1, .int (x2 + (1 : Int32)), .null, .null] μ Q) : wm_Wp 0 289 31 [.ref 89, .int x1, .int x2, .null, .null] μ Q := wm_vc mo_289 (rt := some .boolean) (by decide +kernel) mc_289 178 h
-- WindBoatModel.isSolved()Z, the place 37
set_option maxRecDepth 100000 in
set_option maxHeartbeats 8000000 in
theorem w_289_37 (x1 : Int32) (μ : wm_M) (Q : Option Value → wm_M → Prop) (h : wm_Wp 0 289 2 [.ref 89, .int (x1 + (1 : Int32)), .null, .null, .null] μ Q) : wm_Wp 0 289 37 [.ref 89, .int x1, .null, .null, .null] μ Q := wm_vc mo_289 (rt := some .boolean) (by decide +kernel) mc_289 178 h
-- WindBoatModel.isSolved()Z, the place 43
set_option maxRecDepth 100000 in
set_option maxHeartbeats 8000000 in
theorem w_289_43 (μ : wm_M) (Q : Option Value → wm_M → Prop) (h : wm_Wp 0 289 45 [.ref 89, .int (0 : Int32), .null, .null, .null] μ Q) : wm_Wp 0 289 43 [.ref 89, .null, .null, .null, .null] μ Q := wm_vc mo_289 (rt := some .boolean) (by decide +kernel) mc_289 178 h
-- WindBoatModel.isSolved()Z, the place 45
set_option maxRecDepth 100000 in
set_option maxHeartbeats 8000000 in
theorem w_289_45 (x1 : Int32) (μ : wm_M) (Q : Option Value → wm_M → Prop) (h : (((μ.1 89 39) ≤ x1 → wm_Wp 0 289 127 [.ref 89, .null, .null, .null, .null] μ Q) ∧ (¬ (μ.1 89 39) ≤ x1 → wm_Wp 0 289 57 [.ref 89, .int x1, .int (x1 + (1 : Int32)), .null, .null] μ Q))) : wm_Wp 0 289 45 [.ref 89, .int x1, .null, .null, .null] μ Q := wm_vc mo_289 (rt := some .boolean) (by decide +kernel) mc_289 178 h
-- WindBoatModel.isSolved()Z, the place 57
set_option maxRecDepth 100000 in
set_option maxHeartbeats 8000000 in
theorem w_289_57 (x1 : Int32) (x2 : Int32) (μ : wm_M) (Q : Option Value → wm_M → Prop) (h : (((μ.1 89 39) ≤ x2 → wm_Wp 0 289 121 [.ref 89, .int x1, .null, .null, .null] μ Q) ∧ (¬ (μ.1 89 39) ≤ x2 → wm_Wp 0 289 67 [.ref 89, .int x1, .int x2, .int (0 : Int32), .null] μ Q))) : wm_Wp 0 289 57 [.ref 89, .int x1, .int x2, .null, .null] μ Q := wm_vc mo_289 (rt := some .boolean) (by decide +kernel) mc_289 178 h
-- WindBoatModel.isSolved()Z, the place 67
set_option maxRecDepth 100000 in
set_option maxHeartbeats 8000000 in
theorem w_289_67 (x1 : Int32) (x2 : Int32) (x3 : Int32) (μ : wm_M) (Q : Option Value → wm_M → Prop) (h : (((μ.1 89 39) ≤ x3 → wm_Wp 0 289 115 [.ref 89, .int x1, .int x2, .null, .null] μ Q) ∧ (¬ (μ.1 89 39) ≤ x3 → wm_Wp 0 289 80 [.ref 89, .int x1, .int x2, .int x3, .int (x3 + (1 : Int32))] μ Q))) : wm_Wp 0 289 67 [.ref 89, .int x1, .int x2, .int x3, .null] μ Q := wm_vc mo_289 (rt := some .boolean) (by decide +kernel) mc_289 178 h
-- WindBoatModel.isSolved()Z, the place 80
set_option maxRecDepth 100000 in
set_option maxHeartbeats 8000000 in
theorem w_289_80 (x1 : Int32) (x2 : Int32) (x3 : Int32) (x4 : Int32) (μ : wm_M) (Q : Option Value → wm_M → Prop) (h : (((μ.1 89 39) ≤ x4 → wm_Wp 0 289 109 [.ref 89, .int x1, .int x2, .int x3, .null] μ Q) ∧ (¬ (μ.1 89 39) ≤ x4 → wm_OkI 0 286 [.ref 89, .int x1, .int x2, .int x3, .int x4] μ (fun r2 μ1 => ((r2 = (0 : Int32) → wm_Wp 0 289 103 [.ref 89, .int x1, .int x2, .int x3, .int x4] μ1 Q) ∧ (¬ r2 = (0 : Int32) → (((1 : Int32) = 0 ∨ (1 : Int32) = 1) ∧ Q (some (.int (1 : Int32))) μ1))))))) : wm_Wp 0 289 80 [.ref 89, .int x1, .int x2, .int x3, .int x4] μ Q := wm_vc mo_289 (rt := some .boolean) (by decide +kernel) mc_289 178 h
-- WindBoatModel.isSolved()Z, the place 103
set_option maxRecDepth 100000 in
set_option maxHeartbeats 8000000 in
theorem w_289_103 (x1 : Int32) (x2 : Int32) (x3 : Int32) (x4 : Int32) (μ : wm_M) (Q : Option Value → wm_M → Prop) (h : wm_Wp 0 289 80 [.ref 89, .int x1, .int x2, .int x3, .int (x4 + (1 : Int32))] μ Q) : wm_Wp 0 289 103 [.ref 89, .int x1, .int x2, .int x3, .int x4] μ Q := wm_vc mo_289 (rt := some .boolean) (by decide +kernel) mc_289 178 h
-- WindBoatModel.isSolved()Z, the place 109
set_option maxRecDepth 100000 in
set_option maxHeartbeats 8000000 in
theorem w_289_109 (x1 : Int32) (x2 : Int32) (x3 : Int32) (μ : wm_M) (Q : Option Value → wm_M → Prop) (h : wm_Wp 0 289 67 [.ref 89, .int x1, .int x2, .int (x3 + (1 : Int32)), .null] μ Q) : wm_Wp 0 289 109 [.ref 89, .int x1, .int x2, .int x3, .null] μ Q := wm_vc mo_289 (rt := some .boolean) (by decide +kernel) mc_289 178 h
-- WindBoatModel.isSolved()Z, the place 115
set_option maxRecDepth 100000 in
set_option maxHeartbeats 8000000 in
theorem w_289_115 (x1 : Int32) (x2 : Int32) (μ : wm_M) (Q : Option Value → wm_M → Prop) (h : wm_Wp 0 289 57 [.ref 89, .int x1, .int (x2 + (1 : Int32)), .null, .null] μ Q) : wm_Wp 0 289 115 [.ref 89, .int x1, .int x2, .null, .null] μ Q := wm_vc mo_289 (rt := some .boolean) (by decide +kernel) mc_289 178 h
-- WindBoatModel.isSolved()Z, the place 121
set_option maxRecDepth 100000 in
set_option maxHeartbeats 8000000 in
theorem w_289_121 (x1 : Int32) (μ : wm_M) (Q : Option Value → wm_M → Prop) (h : wm_Wp 0 289 45 [.ref 89, .int (x1 + (1 : Int32)), .null, .null, .null] μ Q) : wm_Wp 0 289 121 [.ref 89, .int x1, .null, .null, .null] μ Q := wm_vc mo_289 (rt := some .boolean) (by decide +kernel) mc_289 178 h
-- WindBoatModel.isSolved()Z, the place 127
set_option maxRecDepth 100000 in
set_option maxHeartbeats 8000000 in
theorem w_289_127 (μ : wm_M) (Q : Option Value → wm_M → Prop) (h : (((μ.1 89 39) = (3 : Int32) → wm_OkI 0 288 [.ref 89] μ (fun r2 μ1 => ((r2 = (0 : Int32) → wm_Wp 0 289 146 [.null, .null, .null, .null, .null] μ1 Q) ∧ (¬ r2 = (0 : Int32) → (((1 : Int32) = 0 ∨ (1 : Int32) = 1) ∧ Q (some (.int (1 : Int32))) μ1))))) ∧ (¬ (μ.1 89 39) = (3 : Int32) → wm_Wp 0 289 146 [.null, .null, .null, .null, .null] μ Q))) : wm_Wp 0 289 127 [.ref 89, .null, .null, .null, .null] μ Q := wm_vc mo_289 (rt := some .boolean) (by decide +kernel) mc_289 178 h
-- WindBoatModel.isSolved()Z, the place 146
set_option maxRecDepth 100000 in
set_option maxHeartbeats 8000000 in
theorem w_289_146 (μ : wm_M) (Q : Option Value → wm_M → Prop) (h : (((0 : Int32) = 0 ∨ (0 : Int32) = 1) ∧ Q (some (.int (0 : Int32))) μ)) : wm_Wp 0 289 146 [.null, .null, .null, .null, .null] μ Q := wm_vc mo_289 (rt := some .boolean) (by decide +kernel) mc_289 178 h
-- WindBoatModel.game()I
set_option maxRecDepth 100000 in
set_option maxHeartbeats 8000000 in
theorem v_290 (μ : wm_M) (Q : Option Value → wm_M → Prop) (h : (((μ.1 89 49) = (0 : Int32) → wm_OkI 0 186 [.ref 89, .int (-2 : Int32)] μ (fun r2 μ1 => Q (some (.int r2)) μ1)) ∧ (¬ (μ.1 89 49) = (0 : Int32) → wm_Wp 0 290 14 [.ref 89, .null] μ Q))) : wm_Ok 0 290 [.ref 89] μ Q := wm_ent (nL := 2) (l := [.ref 89, .null]) (by decide +kernel) (by decide +kernel) (by decide +kernel) rfl rfl (wm_vc mo_290 (rt := some .int) (by decide +kernel) mc_290 148 h)
-- WindBoatModel.game()I, the place 14
set_option maxRecDepth 100000 in
set_option maxHeartbeats 8000000 in
theorem w_290_14 (μ : wm_M) (Q : Option Value → wm_M → Prop) (h : (((μ.1 89 48) = (4 : Int32) → wm_Wp 0 290 38 [.ref 89, .null] μ Q) ∧ (¬ (μ.1 89 48) = (4 : Int32) → (((μ.1 89 48) = (9 : Int32) → wm_Wp 0 290 38 [.ref 89, .null] μ Q) ∧ (¬ (μ.1 89 48) = (9 : Int32) → wm_OkI 0 186 [.ref 89, .int (-5 : Int32)] μ (fun r2 μ1 => Q (some (.int r2)) μ1)))))) : wm_Wp 0 290 14 [.ref 89, .null] μ Q := wm_vc mo_290 (rt := some .int) (by decide +kernel) mc_290 148 h
-- WindBoatModel.game()I, the place 38
set_option maxRecDepth 100000 in
set_option maxHeartbeats 8000000 in
theorem w_290_38 (μ : wm_M) (Q : Option Value → wm_M → Prop) (h : wm_Wp 0 290 40 [.ref 89, .int (0 : Int32)] μ Q) : wm_Wp 0 290 38 [.ref 89, .null] μ Q := wm_vc mo_290 (rt := some .int) (by decide +kernel) mc_290 148 h
-- WindBoatModel.game()I, the place 40
set_option maxRecDepth 100000 in
set_option maxHeartbeats 8000000 in
theorem w_290_40 (x1 : Int32) (μ : wm_M) (Q : Option Value → wm_M → Prop) (h : (((μ.1 89 48) ≤ x1 → wm_Wp 0 290 79 [.ref 89, .null] μ Q) ∧ (¬ (μ.1 89 48) ≤ x1 → (vp_in x1 12 ∧ wm_OkI 0 184 [.int (μ.1 111 (x1).toNatClampNeg), .int (-999 : Int32), .int (999 : Int32)] μ (fun r2 μ1 => ((r2 = (0 : Int32) → wm_OkI 0 186 [.ref 89, .int (-7 : Int32)] μ1 (fun r4 μ3 => Q (some (.int r4)) μ3)) ∧ (¬ r2 = (0 : Int32) → wm_Wp 0 290 73 [.ref 89, .int x1] μ1 Q))))))) : wm_Wp 0 290 40 [.ref 89, .int x1] μ Q := wm_vc mo_290 (rt := some .int) (by decide +kernel) mc_290 148 h
-- WindBoatModel.game()I, the place 73
set_option maxRecDepth 100000 in
set_option maxHeartbeats 8000000 in
theorem w_290_73 (x1 : Int32) (μ : wm_M) (Q : Option Value → wm_M → Prop) (h : wm_Wp 0 290 40 [.ref 89, .int (x1 + (1 : Int32))] μ Q) : wm_Wp 0 290 73 [.ref 89, .int x1] μ Q := wm_vc mo_290 (rt := some .int) (by decide +kernel) mc_290 148 h
-- WindBoatModel.game()I, the place 79
set_option maxRecDepth 100000 in
set_option maxHeartbeats 8000000 in
theorem w_290_79 (μ : wm_M) (Q : Option Value → wm_M → Prop) (h : (((μ.1 89 48) = (4 : Int32) → wm_OkI 0 289 [.ref 89] (wm_si μ 89 39 (2 : Int32)) (fun r2 μ1 => ((r2 = (0 : Int32) → wm_Wp 0 290 124 [.null, .null] μ1 Q) ∧ (¬ r2 = (0 : Int32) → wm_OkJ 0 282 [.long ((1000 : Int64) * (μ1.2 89 40)), .long (μ1.2 89 41)] μ1 (fun r4 μ3 => Q (some (.int (r4).toInt32)) μ3))))) ∧ (¬ (μ.1 89 48) = (4 : Int32) → wm_OkI 0 289 [.ref 89] (wm_si μ 89 39 (3 : Int32)) (fun r6 μ5 => ((r6 = (0 : Int32) → wm_Wp 0 290 124 [.null, .null] μ5 Q) ∧ (¬ r6 = (0 : Int32) → wm_OkJ 0 282 [.long ((1000 : Int64) * (μ5.2 89 40)), .long (μ5.2 89 41)] μ5 (fun r8 μ7 => Q (some (.int (r8).toInt32)) μ7))))))) : wm_Wp 0 290 79 [.ref 89, .null] μ Q := wm_vc mo_290 (rt := some .int) (by decide +kernel) mc_290 148 h
-- WindBoatModel.game()I, the place 124
set_option maxRecDepth 100000 in
set_option maxHeartbeats 8000000 in
theorem w_290_124 (μ : wm_M) (Q : Option Value → wm_M → Prop) (h : Q (some (.int (0 : Int32))) μ) : wm_Wp 0 290 124 [.null, .null] μ Q := wm_vc mo_290 (rt := some .int) (by decide +kernel) mc_290 148 h
-- WindBoatModel.at(II)I
set_option maxRecDepth 100000 in
set_option maxHeartbeats 8000000 in
theorem v_291 (a1 : Int32) (a2 : Int32) (μ : wm_M) (Q : Option Value → wm_M → Prop) (h : (¬ (100 : Int32) = 0 ∧ (¬ (10 : Int32) = 0 ∧ (¬ (10 : Int32) = 0 ∧ (¬ (10 : Int32) = 0 ∧ ((a1 < (0 : Int32) → wm_Wp 0 291 47 [.ref 89, .null, .null, .null, .null, .null] μ Q) ∧ (¬ a1 < (0 : Int32) → wm_OkI 0 189 [.int (a1 / (100 : Int32))] μ (fun r2 μ1 => ((r2 = (0 : Int32) → wm_Wp 0 291 47 [.ref 89, .null, .null, .null, .null, .null] μ1 Q) ∧ (¬ r2 = (0 : Int32) → (((8 : Int32) ≤ ((a1 / (10 : Int32)) - (a1 / (10 : Int32)) / (10 : Int32) * (10 : Int32)) → wm_Wp 0 291 47 [.ref 89, .null, .null, .null, .null, .null] μ1 Q) ∧ (¬ (8 : Int32) ≤ ((a1 / (10 : Int32)) - (a1 / (10 : Int32)) / (10 : Int32) * (10 : Int32)) → wm_OkI 0 191 [.ref 89, .int (a1 - a1 / (10 : Int32) * (10 : Int32))] μ1 (fun r4 μ3 => ((r4 = (0 : Int32) → wm_Wp 0 291 47 [.ref 89, .null, .null, .null, .null, .null] μ3 Q) ∧ (¬ r4 = (0 : Int32) → wm_Wp 0 291 54 [.ref 89, .null, .int a2, .int (a1 / (100 : Int32)), .int ((a1 / (10 : Int32)) - (a1 / (10 : Int32)) / (10 : Int32) * (10 : Int32)), .int (a1 - a1 / (10 : Int32) * (10 : Int32))] μ3 Q))))))))))))))) : wm_Ok 0 291 [.ref 89, .int a1, .int a2] μ Q := wm_ent (nL := 6) (l := [.ref 89, .int a1, .int a2, .null, .null, .null]) (by decide +kernel) (by decide +kernel) (by decide +kernel) rfl rfl (wm_vc mo_291 (rt := some .int) (by decide +kernel) mc_291 216 h)
-- WindBoatModel.at(II)I, the place 47
set_option maxRecDepth 100000 in
set_option maxHeartbeats 8000000 in
theorem w_291_47 (μ : wm_M) (Q : Option Value → wm_M → Prop) (h : wm_OkI 0 185 [.ref 89, .int (-3 : Int32)] μ (fun r2 μ1 => Q (some (.int r2)) μ1)) : wm_Wp 0 291 47 [.ref 89, .null, .null, .null, .null, .null] μ Q := wm_vc mo_291 (rt := some .int) (by decide +kernel) mc_291 216 h
-- WindBoatModel.at(II)I, the place 54
set_option maxRecDepth 100000 in
set_option maxHeartbeats 8000000 in
theorem w_291_54 (x2 : Int32) (x3 : Int32) (x4 : Int32) (x5 : Int32) (μ : wm_M) (Q : Option Value → wm_M → Prop) (h : (vp_in ((0 : Int32) + x3) 2060 ∧ (((μ.1 91 (((0 : Int32) + x3)).toNatClampNeg) = (1 : Int32) → wm_OkI 0 185 [.ref 89, .int (-5 : Int32)] μ (fun r2 μ1 => Q (some (.int r2)) μ1)) ∧ (¬ (μ.1 91 (((0 : Int32) + x3)).toNatClampNeg) = (1 : Int32) → wm_Wp 0 291 73 [.ref 89, .null, .int x2, .int x3, .int x4, .int x5] μ Q)))) : wm_Wp 0 291 54 [.ref 89, .null, .int x2, .int x3, .int x4, .int x5] μ Q := wm_vc mo_291 (rt := some .int) (by decide +kernel) mc_291 216 h
-- WindBoatModel.at(II)I, the place 73
set_option maxRecDepth 100000 in
set_option maxHeartbeats 8000000 in
theorem w_291_73 (x2 : Int32) (x3 : Int32) (x4 : Int32) (x5 : Int32) (μ : wm_M) (Q : Option Value → wm_M → Prop) (h : (vp_in ((452 : Int32) + x5) 2060 ∧ (((μ.1 91 (((452 : Int32) + x5)).toNatClampNeg) = (1 : Int32) → wm_Wp 0 291 98 [.ref 89, .null, .null, .null, .null, .null] μ Q) ∧ (¬ (μ.1 91 (((452 : Int32) + x5)).toNatClampNeg) = (1 : Int32) → wm_OkI 0 184 [.int x2, .int (0 : Int32), .int (120 : Int32)] μ (fun r2 μ1 => ((r2 = (0 : Int32) → wm_Wp 0 291 98 [.ref 89, .null, .null, .null, .null, .null] μ1 Q) ∧ (¬ r2 = (0 : Int32) → wm_Wp 0 291 105 [.ref 89, .null, .int x2, .int x3, .int x4, .int x5] μ1 Q))))))) : wm_Wp 0 291 73 [.ref 89, .null, .int x2, .int x3, .int x4, .int x5] μ Q := wm_vc mo_291 (rt := some .int) (by decide +kernel) mc_291 216 h
-- WindBoatModel.at(II)I, the place 98
set_option maxRecDepth 100000 in
set_option maxHeartbeats 8000000 in
theorem w_291_98 (μ : wm_M) (Q : Option Value → wm_M → Prop) (h : wm_OkI 0 185 [.ref 89, .int (-7 : Int32)] μ (fun r2 μ1 => Q (some (.int r2)) μ1)) : wm_Wp 0 291 98 [.ref 89, .null, .null, .null, .null, .null] μ Q := wm_vc mo_291 (rt := some .int) (by decide +kernel) mc_291 216 h
-- WindBoatModel.at(II)I, the place 105
set_option maxRecDepth 100000 in
set_option maxHeartbeats 8000000 in
theorem w_291_105 (x2 : Int32) (x3 : Int32) (x4 : Int32) (x5 : Int32) (μ : wm_M) (Q : Option Value → wm_M → Prop) (h : (vp_in (2046 : Int32) 2060 ∧ (vp_in (2047 : Int32) 2060 ∧ (vp_in (2048 : Int32) 2060 ∧ (vp_in (2049 : Int32) 2060 ∧ (vp_in (2050 : Int32) 2060 ∧ wm_OkI 0 257 [.ref 89] (wm_si (wm_si (wm_si (wm_si (wm_si μ 91 ((2046 : Int32)).toNatClampNeg (1 : Int32)) 91 ((2047 : Int32)).toNatClampNeg x3) 91 ((2048 : Int32)).toNatClampNeg x4) 91 ((2049 : Int32)).toNatClampNeg x5) 91 ((2050 : Int32)).toNatClampNeg x2) (fun r2 μ1 => (vp_in (2051 : Int32) 2060 ∧ (vp_in (2052 : Int32) 2060 ∧ wm_OkI 0 257 [.ref 89] (wm_si (wm_si μ1 91 ((2051 : Int32)).toNatClampNeg r2) 91 ((2052 : Int32)).toNatClampNeg x2) (fun r4 μ3 => Q (some (.int r4)) μ3)))))))))) : wm_Wp 0 291 105 [.ref 89, .null, .int x2, .int x3, .int x4, .int x5] μ Q := wm_vc mo_291 (rt := some .int) (by decide +kernel) mc_291 216 h
-- WindBoatModel.tears(III)Z
set_option maxRecDepth 100000 in
set_option maxHeartbeats 8000000 in
theorem v_292 (a1 : Int32) (a2 : Int32) (a3 : Int32) (μ : wm_M) (Q : Option Value → wm_M → Prop) (h : wm_OkI 0 200 [.ref 89, .int (6 : Int32), .int a3, .int a2] μ (fun r2 μ1 => wm_OkI 0 212 [.ref 89, .int a1] μ1 (fun r4 μ3 => ((r2 ≤ r4 → wm_Wp 0 292 20 [.null, .null, .null, .null] μ3 Q) ∧ (¬ r2 ≤ r4 → (((1 : Int32) = 0 ∨ (1 : Int32) = 1) ∧ Q (some (.int (1 : Int32))) μ3)))))) : wm_Ok 0 292 [.ref 89, .int a1, .int a2, .int a3] μ Q := wm_ent (nL := 4) (l := [.ref 89, .int a1, .int a2, .int a3]) (by decide +kernel) (by decide +kernel) (by decide +kernel) rfl rfl (wm_vc mo_292 (rt := some .boolean) (by decide +kernel) mc_292 46 h)
-- WindBoatModel.tears(III)Z, the place 20
set_option maxRecDepth 100000 in
set_option maxHeartbeats 8000000 in
theorem w_292_20 (μ : wm_M) (Q : Option Value → wm_M → Prop) (h : (((0 : Int32) = 0 ∨ (0 : Int32) = 1) ∧ Q (some (.int (0 : Int32))) μ)) : wm_Wp 0 292 20 [.null, .null, .null, .null] μ Q := wm_vc mo_292 (rt := some .boolean) (by decide +kernel) mc_292 46 h
-- WindBoatModel.pass(I)V
set_option maxRecDepth 100000 in
set_option maxHeartbeats 8000000 in
theorem v_293 (a1 : Int32) (μ : wm_M) (Q : Option Value → wm_M → Prop) (h : wm_Wp 0 293 2 [.ref 89, .int a1, .int (0 : Int32), .null, .null] μ Q) : wm_Ok 0 293 [.ref 89, .int a1] μ Q := wm_ent (nL := 5) (l := [.ref 89, .int a1, .null, .null, .null]) (by decide +kernel) (by decide +kernel) (by decide +kernel) rfl rfl (wm_vc mo_293 (rt := none) (by decide +kernel) mc_293 174 h)
-- WindBoatModel.pass(I)V, the place 2
set_option maxRecDepth 100000 in
set_option maxHeartbeats 8000000 in
theorem w_293_2 (x1 : Int32) (x2 : Int32) (μ : wm_M) (Q : Option Value → wm_M → Prop) (h : ((x1 ≤ x2 → wm_Wp 0 293 140 [.null, .null, .null, .null, .null] μ Q) ∧ (¬ x1 ≤ x2 → wm_Wp 0 293 9 [.ref 89, .int x1, .int x2, .int (0 : Int32), .null] μ Q))) : wm_Wp 0 293 2 [.ref 89, .int x1, .int x2, .null, .null] μ Q := wm_vc mo_293 (rt := none) (by decide +kernel) mc_293 174 h
-- WindBoatModel.pass(I)V, the place 9
set_option maxRecDepth 100000 in
set_option maxHeartbeats 8000000 in
theorem w_293_9 (x1 : Int32) (x2 : Int32) (x3 : Int32) (μ : wm_M) (Q : Option Value → wm_M → Prop) (h : wm_OkI 0 188 [.ref 89, .int (1 : Int32)] μ (fun r2 μ1 => ((r2 ≤ x3 → wm_Wp 0 293 78 [.ref 89, .int x1, .int x2, .null, .null] μ1 Q) ∧ (¬ r2 ≤ x3 → (vp_in ((455 : Int32) + x3) 2060 ∧ (vp_in ((463 : Int32) + x3) 2060 ∧ (((μ1.1 91 (((463 : Int32) + x3)).toNatClampNeg) = (1 : Int32) → (((0 : Int32) ≤ ((μ1.1 91 (((455 : Int32) + x3)).toNatClampNeg) + (-2 : Int32)) → (vp_in ((455 : Int32) + x3) 2060 ∧ wm_Wp 0 293 9 [.ref 89, .int x1, .int x2, .int (x3 + (1 : Int32)), .null] (wm_si μ1 91 (((455 : Int32) + x3)).toNatClampNeg ((μ1.1 91 (((455 : Int32) + x3)).toNatClampNeg) + (-2 : Int32))) Q)) ∧ (¬ (0 : Int32) ≤ ((μ1.1 91 (((455 : Int32) + x3)).toNatClampNeg) + (-2 : Int32)) → (vp_in ((455 : Int32) + x3) 2060 ∧ wm_Wp 0 293 9 [.ref 89, .int x1, .int x2, .int (x3 + (1 : Int32)), .null] (wm_si μ1 91 (((455 : Int32) + x3)).toNatClampNeg (0 : Int32)) Q)))) ∧ (¬ (μ1.1 91 (((463 : Int32) + x3)).toNatClampNeg) = (1 : Int32) → (((0 : Int32) ≤ ((μ1.1 91 (((455 : Int32) + x3)).toNatClampNeg) + (1 : Int32)) → (vp_in ((455 : Int32) + x3) 2060 ∧ wm_Wp 0 293 9 [.ref 89, .int x1, .int x2, .int (x3 + (1 : Int32)), .null] (wm_si μ1 91 (((455 : Int32) + x3)).toNatClampNeg ((μ1.1 91 (((455 : Int32) + x3)).toNatClampNeg) + (1 : Int32))) Q)) ∧ (¬ (0 : Int32) ≤ ((μ1.1 91 (((455 : Int32) + x3)).toNatClampNeg) + (1 : Int32)) → (vp_in ((455 : Int32) + x3) 2060 ∧ wm_Wp 0 293 9 [.ref 89, .int x1, .int x2, .int (x3 + (1 : Int32)), .null] (wm_si μ1 91 (((455 : Int32) + x3)).toNatClampNeg (0 : Int32)) Q))))))))))) : wm_Wp 0 293 9 [.ref 89, .int x1, .int x2, .int x3, .null] μ Q := wm_vc mo_293 (rt := none) (by decide +kernel) mc_293 174 h
-- WindBoatModel.pass(I)V, the place 78
set_option maxRecDepth 100000 in
set_option maxHeartbeats 8000000 in
theorem w_293_78 (x1 : Int32) (x2 : Int32) (μ : wm_M) (Q : Option Value → wm_M → Prop) (h : wm_OkI 0 188 [.ref 89, .int (9 : Int32)] μ (fun r2 μ1 => wm_OkI 0 188 [.ref 89, .int (7 : Int32)] μ1 (fun r4 μ3 => wm_OkI 0 188 [.ref 89, .int (10 : Int32)] μ3 (fun r6 μ5 => wm_OkI 0 192 [.int r6] μ5 (fun r8 μ7 => wm_OkI 0 292 [.ref 89, .int r2, .int r4, .int r8] μ7 (fun r10 μ9 => ((r10 = (0 : Int32) → wm_Wp 0 293 122 [.ref 89, .int x1, .int x2, .null, .null] μ9 Q) ∧ (¬ r10 = (0 : Int32) → wm_OkI 0 188 [.ref 89, .int (9 : Int32)] μ9 (fun r12 μ11 => (vp_in ((452 : Int32) + r12) 2060 ∧ wm_Wp 0 293 122 [.ref 89, .int x1, .int x2, .null, .null] (wm_si μ11 91 (((452 : Int32) + r12)).toNatClampNeg (1 : Int32)) Q)))))))))) : wm_Wp 0 293 78 [.ref 89, .int x1, .int x2, .null, .null] μ Q := wm_vc mo_293 (rt := none) (by decide +kernel) mc_293 174 h
-- WindBoatModel.pass(I)V, the place 122
set_option maxRecDepth 100000 in
set_option maxHeartbeats 8000000 in
theorem w_293_122 (x1 : Int32) (x2 : Int32) (μ : wm_M) (Q : Option Value → wm_M → Prop) (h : (vp_in (2050 : Int32) 2060 ∧ (vp_in (2050 : Int32) 2060 ∧ wm_Wp 0 293 2 [.ref 89, .int x1, .int (x2 + (1 : Int32)), .null, .null] (wm_si μ 91 ((2050 : Int32)).toNatClampNeg ((μ.1 91 ((2050 : Int32)).toNatClampNeg) + (1 : Int32))) Q))) : wm_Wp 0 293 122 [.ref 89, .int x1, .int x2, .null, .null] μ Q := wm_vc mo_293 (rt := none) (by decide +kernel) mc_293 174 h
-- WindBoatModel.pass(I)V, the place 140
set_option maxRecDepth 100000 in
set_option maxHeartbeats 8000000 in
theorem w_293_140 (μ : wm_M) (Q : Option Value → wm_M → Prop) (h : Q none μ) : wm_Wp 0 293 140 [.null, .null, .null, .null, .null] μ Q := wm_vc mo_293 (rt := none) (by decide +kernel) mc_293 174 h
-- WindBoatModel.stay(I)I
set_option maxRecDepth 100000 in
set_option maxHeartbeats 8000000 in
theorem v_294 (a1 : Int32) (μ : wm_M) (Q : Option Value → wm_M → Prop) (h : wm_OkI 0 188 [.ref 89, .int (6 : Int32)] μ (fun r2 μ1 => ((r2 = (0 : Int32) → wm_OkI 0 185 [.ref 89, .int (-2 : Int32)] μ1 (fun r4 μ3 => Q (some (.int r4)) μ3)) ∧ (¬ r2 = (0 : Int32) → wm_Wp 0 294 16 [.ref 89, .int a1] μ1 Q)))) : wm_Ok 0 294 [.ref 89, .int a1] μ Q := wm_ent (nL := 2) (l := [.ref 89, .int a1]) (by decide +kernel) (by decide +kernel) (by decide +kernel) rfl rfl (wm_vc mo_294 (rt := some .int) (by decide +kernel) mc_294 102 h)
-- WindBoatModel.stay(I)I, the place 16
set_option maxRecDepth 100000 in
set_option maxHeartbeats 8000000 in
theorem w_294_16 (x1 : Int32) (μ : wm_M) (Q : Option Value → wm_M → Prop) (h : (((0 : Int32) ≤ x1 → wm_Wp 0 294 27 [.ref 89, .int x1] μ Q) ∧ (¬ (0 : Int32) ≤ x1 → wm_OkI 0 185 [.ref 89, .int (-4 : Int32)] μ (fun r2 μ1 => Q (some (.int r2)) μ1)))) : wm_Wp 0 294 16 [.ref 89, .int x1] μ Q := wm_vc mo_294 (rt := some .int) (by decide +kernel) mc_294 102 h
-- WindBoatModel.stay(I)I, the place 27
set_option maxRecDepth 100000 in
set_option maxHeartbeats 8000000 in
theorem w_294_27 (x1 : Int32) (μ : wm_M) (Q : Option Value → wm_M → Prop) (h : wm_OkI 0 184 [.int x1, .int (1 : Int32), .int (60 : Int32)] μ (fun r2 μ1 => ((r2 = (0 : Int32) → wm_OkI 0 185 [.ref 89, .int (-7 : Int32)] μ1 (fun r4 μ3 => Q (some (.int r4)) μ3)) ∧ (¬ r2 = (0 : Int32) → wm_Wp 0 294 44 [.ref 89, .int x1] μ1 Q)))) : wm_Wp 0 294 27 [.ref 89, .int x1] μ Q := wm_vc mo_294 (rt := some .int) (by decide +kernel) mc_294 102 h
-- WindBoatModel.stay(I)I, the place 44
set_option maxRecDepth 100000 in
set_option maxHeartbeats 8000000 in
theorem w_294_44 (x1 : Int32) (μ : wm_M) (Q : Option Value → wm_M → Prop) (h : wm_OkI 0 188 [.ref 89, .int (10 : Int32)] μ (fun r2 μ1 => (((r2 + x1) ≤ (120 : Int32) → wm_Wp 0 294 64 [.ref 89, .int x1] μ1 Q) ∧ (¬ (r2 + x1) ≤ (120 : Int32) → wm_OkI 0 185 [.ref 89, .int (-8 : Int32)] μ1 (fun r4 μ3 => Q (some (.int r4)) μ3))))) : wm_Wp 0 294 44 [.ref 89, .int x1] μ Q := wm_vc mo_294 (rt := some .int) (by decide +kernel) mc_294 102 h
-- WindBoatModel.stay(I)I, the place 64
set_option maxRecDepth 100000 in
set_option maxHeartbeats 8000000 in
theorem w_294_64 (x1 : Int32) (μ : wm_M) (Q : Option Value → wm_M → Prop) (h : wm_OkV 0 293 [.ref 89, .int x1] μ (fun μ1 => wm_OkI 0 188 [.ref 89, .int (10 : Int32)] μ1 (fun r3 μ2 => Q (some (.int r3)) μ2))) : wm_Wp 0 294 64 [.ref 89, .int x1] μ Q := wm_vc mo_294 (rt := some .int) (by decide +kernel) mc_294 102 h
-- WindBoatModel.go(I)I
set_option maxRecDepth 100000 in
set_option maxHeartbeats 8000000 in
theorem v_295 (a1 : Int32) (μ : wm_M) (Q : Option Value → wm_M → Prop) (h : wm_OkI 0 188 [.ref 89, .int (6 : Int32)] μ (fun r2 μ1 => ((r2 = (0 : Int32) → wm_OkI 0 185 [.ref 89, .int (-2 : Int32)] μ1 (fun r4 μ3 => Q (some (.int r4)) μ3)) ∧ (¬ r2 = (0 : Int32) → wm_Wp 0 295 16 [.ref 89, .int a1, .null, .null, .null, .null, .null] μ1 Q)))) : wm_Ok 0 295 [.ref 89, .int a1] μ Q := wm_ent (nL := 7) (l := [.ref 89, .int a1, .null, .null, .null, .null, .null]) (by decide +kernel) (by decide +kernel) (by decide +kernel) rfl rfl (wm_vc mo_295 (rt := some .int) (by decide +kernel) mc_295 346 h)
-- WindBoatModel.go(I)I, the place 16
set_option maxRecDepth 100000 in
set_option maxHeartbeats 8000000 in
theorem w_295_16 (x1 : Int32) (μ : wm_M) (Q : Option Value → wm_M → Prop) (h : wm_OkI 0 184 [.int x1, .int (0 : Int32), .int (7 : Int32)] μ (fun r2 μ1 => ((r2 = (0 : Int32) → wm_OkI 0 185 [.ref 89, .int (-3 : Int32)] μ1 (fun r4 μ3 => Q (some (.int r4)) μ3)) ∧ (¬ r2 = (0 : Int32) → wm_Wp 0 295 33 [.ref 89, .int x1, .null, .null, .null, .null, .null] μ1 Q)))) : wm_Wp 0 295 16 [.ref 89, .int x1, .null, .null, .null, .null, .null] μ Q := wm_vc mo_295 (rt := some .int) (by decide +kernel) mc_295 346 h
-- WindBoatModel.go(I)I, the place 33
set_option maxRecDepth 100000 in
set_option maxHeartbeats 8000000 in
theorem w_295_33 (x1 : Int32) (μ : wm_M) (Q : Option Value → wm_M → Prop) (h : wm_OkI 0 188 [.ref 89, .int (8 : Int32)] μ (fun r2 μ1 => wm_OkI 0 248 [.int r2, .int x1] μ1 (fun r4 μ3 => wm_OkI 0 188 [.ref 89, .int (10 : Int32)] μ3 (fun r6 μ5 => wm_OkI 0 188 [.ref 89, .int (9 : Int32)] μ5 (fun r8 μ7 => wm_OkI 0 213 [.ref 89, .int r8] μ7 (fun r10 μ9 => ((r10 = (0 : Int32) → wm_Wp 0 295 76 [.ref 89, .int x1, .int r4, .int (r6 + r4), .null, .null, .null] μ9 Q) ∧ (¬ r10 = (0 : Int32) → (((120 : Int32) ≤ (r6 + r4) → wm_Wp 0 295 76 [.ref 89, .int x1, .int r4, .int (r6 + r4), .null, .null, .null] μ9 Q) ∧ (¬ (120 : Int32) ≤ (r6 + r4) → wm_OkI 0 188 [.ref 89, .int (10 : Int32)] μ9 (fun r12 μ11 => wm_Wp 0 295 87 [.ref 89, .int x1, .int r4, .int (r6 + r4), .int (1 : Int32), .int r12, .null] μ11 Q))))))))))) : wm_Wp 0 295 33 [.ref 89, .int x1, .null, .null, .null, .null, .null] μ Q := wm_vc mo_295 (rt := some .int) (by decide +kernel) mc_295 346 h
-- WindBoatModel.go(I)I, the place 76
set_option maxRecDepth 100000 in
set_option maxHeartbeats 8000000 in
theorem w_295_76 (x1 : Int32) (x2 : Int32) (x3 : Int32) (μ : wm_M) (Q : Option Value → wm_M → Prop) (h : wm_OkI 0 188 [.ref 89, .int (10 : Int32)] μ (fun r2 μ1 => wm_Wp 0 295 87 [.ref 89, .int x1, .int x2, .int x3, .int (0 : Int32), .int r2, .null] μ1 Q)) : wm_Wp 0 295 76 [.ref 89, .int x1, .int x2, .int x3, .null, .null, .null] μ Q := wm_vc mo_295 (rt := some .int) (by decide +kernel) mc_295 346 h
-- WindBoatModel.go(I)I, the place 87
set_option maxRecDepth 100000 in
set_option maxHeartbeats 8000000 in
theorem w_295_87 (x1 : Int32) (x2 : Int32) (x3 : Int32) (x4 : Int32) (x5 : Int32) (μ : wm_M) (Q : Option Value → wm_M → Prop) (h : ((x3 ≤ x5 → wm_Wp 0 295 135 [.ref 89, .int x1, .int x2, .int x3, .int x4, .null, .null] μ Q) ∧ (¬ x3 ≤ x5 → ((x4 = (0 : Int32) → wm_Wp 0 295 135 [.ref 89, .int x1, .int x2, .int x3, .int x4, .null, .null] μ Q) ∧ (¬ x4 = (0 : Int32) → wm_OkI 0 188 [.ref 89, .int (9 : Int32)] μ (fun r2 μ1 => wm_OkI 0 188 [.ref 89, .int (7 : Int32)] μ1 (fun r4 μ3 => wm_OkI 0 192 [.int x5] μ3 (fun r6 μ5 => wm_OkI 0 292 [.ref 89, .int r2, .int r4, .int r6] μ5 (fun r8 μ7 => ((r8 = (0 : Int32) → wm_Wp 0 295 87 [.ref 89, .int x1, .int x2, .int x3, .int (1 : Int32), .int (x5 + (1 : Int32)), .null] μ7 Q) ∧ (¬ r8 = (0 : Int32) → wm_Wp 0 295 126 [.ref 89, .int x1, .int x2, .int x3, .null, .int x5, .null] μ7 Q))))))))))) : wm_Wp 0 295 87 [.ref 89, .int x1, .int x2, .int x3, .int x4, .int x5, .null] μ Q := wm_vc mo_295 (rt := some .int) (by decide +kernel) mc_295 346 h
-- WindBoatModel.go(I)I, the place 126
set_option maxRecDepth 100000 in
set_option maxHeartbeats 8000000 in
theorem w_295_126 (x1 : Int32) (x2 : Int32) (x3 : Int32) (x5 : Int32) (μ : wm_M) (Q : Option Value → wm_M → Prop) (h : wm_Wp 0 295 87 [.ref 89, .int x1, .int x2, .int x3, .int (0 : Int32), .int (x5 + (1 : Int32)), .null] μ Q) : wm_Wp 0 295 126 [.ref 89, .int x1, .int x2, .int x3, .null, .int x5, .null] μ Q := wm_vc mo_295 (rt := some .int) (by decide +kernel) mc_295 346 h
-- WindBoatModel.go(I)I, the place 135
set_option maxRecDepth 100000 in
set_option maxHeartbeats 8000000 in
theorem w_295_135 (x1 : Int32) (x2 : Int32) (x3 : Int32) (x4 : Int32) (μ : wm_M) (Q : Option Value → wm_M → Prop) (h : ((x4 = (0 : Int32) → wm_OkI 0 185 [.ref 89, .int (-7 : Int32)] μ (fun r2 μ1 => Q (some (.int r2)) μ1)) ∧ (¬ x4 = (0 : Int32) → wm_Wp 0 295 147 [.ref 89, .int x1, .int x2, .int x3, .null, .null, .null] μ Q))) : wm_Wp 0 295 135 [.ref 89, .int x1, .int x2, .int x3, .int x4, .null, .null] μ Q := wm_vc mo_295 (rt := some .int) (by decide +kernel) mc_295 346 h
-- WindBoatModel.go(I)I, the place 147
set_option maxRecDepth 100000 in
set_option maxHeartbeats 8000000 in
theorem w_295_147 (x1 : Int32) (x2 : Int32) (x3 : Int32) (μ : wm_M) (Q : Option Value → wm_M → Prop) (h : wm_OkI 0 188 [.ref 89, .int (7 : Int32)] μ (fun r2 μ1 => wm_OkI 0 247 [.int r2, .int x1] μ1 (fun r4 μ3 => wm_OkI 0 192 [.int x3] μ3 (fun r6 μ5 => wm_OkI 0 188 [.ref 89, .int (7 : Int32)] μ5 (fun r8 μ7 => wm_OkI 0 188 [.ref 89, .int (9 : Int32)] μ7 (fun r10 μ9 => wm_OkV 0 245 [.ref 89, .int r6, .int r8, .int r10] μ9 (fun μ11 => ((r4 = (-1 : Int32) → wm_Wp 0 295 201 [.ref 89, .int x1, .int x2, .int x3, .null, .null, .null] μ11 Q) ∧ (¬ r4 = (-1 : Int32) → wm_OkI 0 192 [.int x3] μ11 (fun r13 μ12 => wm_OkI 0 188 [.ref 89, .int (9 : Int32)] μ12 (fun r15 μ14 => wm_OkV 0 245 [.ref 89, .int r13, .int r4, .int r15] μ14 (fun μ16 => wm_Wp 0 295 201 [.ref 89, .int x1, .int x2, .int x3, .null, .null, .null] μ16 Q)))))))))))) : wm_Wp 0 295 147 [.ref 89, .int x1, .int x2, .int x3, .null, .null, .null] μ Q := wm_vc mo_295 (rt := some .int) (by decide +kernel) mc_295 346 h
-- WindBoatModel.go(I)I, the place 201
set_option maxRecDepth 100000 in
set_option maxHeartbeats 8000000 in
theorem w_295_201 (x1 : Int32) (x2 : Int32) (x3 : Int32) (μ : wm_M) (Q : Option Value → wm_M → Prop) (h : wm_OkI 0 188 [.ref 89, .int (7 : Int32)] μ (fun r2 μ1 => wm_OkI 0 188 [.ref 89, .int (9 : Int32)] μ1 (fun r4 μ3 => wm_OkI 0 192 [.int x3] μ3 (fun r6 μ5 => wm_OkI 0 249 [.ref 89, .int (6 : Int32), .int (1 : Int32), .int (((3 : Int32) * (((8 : Int32) * r2) + x1)) + r4), .int r6] μ5 (fun r8 μ7 => ((r8 = (0 : Int32) → wm_Wp 0 295 248 [.ref 89, .null, .null, .null, .null, .null, .null] μ7 Q) ∧ (¬ r8 = (0 : Int32) → (((x3 + r8) ≤ (120 : Int32) → wm_Wp 0 295 255 [.ref 89, .int x1, .int x2, .null, .null, .null, .int r8] μ7 Q) ∧ (¬ (x3 + r8) ≤ (120 : Int32) → wm_Wp 0 295 248 [.ref 89, .null, .null, .null, .null, .null, .null] μ7 Q))))))))) : wm_Wp 0 295 201 [.ref 89, .int x1, .int x2, .int x3, .null, .null, .null] μ Q := wm_vc mo_295 (rt := some .int) (by decide +kernel) mc_295 346 h
-- WindBoatModel.go(I)I, the place 248
set_option maxRecDepth 100000 in
set_option maxHeartbeats 8000000 in
theorem w_295_248 (μ : wm_M) (Q : Option Value → wm_M → Prop) (h : wm_OkI 0 185 [.ref 89, .int (-7 : Int32)] μ (fun r2 μ1 => Q (some (.int r2)) μ1)) : wm_Wp 0 295 248 [.ref 89, .null, .null, .null, .null, .null, .null] μ Q := wm_vc mo_295 (rt := some .int) (by decide +kernel) mc_295 346 h
-- WindBoatModel.go(I)I, the place 255
set_option maxRecDepth 100000 in
set_option maxHeartbeats 8000000 in
theorem w_295_255 (x1 : Int32) (x2 : Int32) (x6 : Int32) (μ : wm_M) (Q : Option Value → wm_M → Prop) (h : wm_OkV 0 293 [.ref 89, .int (x2 + x6)] μ (fun μ1 => (vp_in (2048 : Int32) 2060 ∧ wm_OkI 0 188 [.ref 89, .int (7 : Int32)] (wm_si μ1 91 ((2048 : Int32)).toNatClampNeg x1) (fun r3 μ2 => wm_OkI 0 247 [.int r3, .int x1] μ2 (fun r5 μ4 => (vp_in (2047 : Int32) 2060 ∧ (vp_in (2053 : Int32) 2060 ∧ (vp_in (2053 : Int32) 2060 ∧ wm_OkI 0 188 [.ref 89, .int (10 : Int32)] (wm_si (wm_si μ4 91 ((2047 : Int32)).toNatClampNeg r5) 91 ((2053 : Int32)).toNatClampNeg (((wm_si μ4 91 ((2047 : Int32)).toNatClampNeg r5).1 91 ((2053 : Int32)).toNatClampNeg) + (1 : Int32))) (fun r7 μ6 => Q (some (.int r7)) μ6))))))))) : wm_Wp 0 295 255 [.ref 89, .int x1, .int x2, .null, .null, .null, .int x6] μ Q := wm_vc mo_295 (rt := some .int) (by decide +kernel) mc_295 346 h
-- WindBoatModel.raise(I)I
set_option maxRecDepth 100000 in
set_option maxHeartbeats 8000000 in
theorem v_296 (a1 : Int32) (μ : wm_M) (Q : Option Value → wm_M → Prop) (h : wm_OkI 0 188 [.ref 89, .int (6 : Int32)] μ (fun r2 μ1 => ((r2 = (0 : Int32) → wm_OkI 0 185 [.ref 89, .int (-2 : Int32)] μ1 (fun r4 μ3 => Q (some (.int r4)) μ3)) ∧ (¬ r2 = (0 : Int32) → wm_Wp 0 296 16 [.ref 89, .int a1, .null] μ1 Q)))) : wm_Ok 0 296 [.ref 89, .int a1] μ Q := wm_ent (nL := 3) (l := [.ref 89, .int a1, .null]) (by decide +kernel) (by decide +kernel) (by decide +kernel) rfl rfl (wm_vc mo_296 (rt := some .int) (by decide +kernel) mc_296 130 h)
-- WindBoatModel.raise(I)I, the place 16
set_option maxRecDepth 100000 in
set_option maxHeartbeats 8000000 in
theorem w_296_16 (x1 : Int32) (μ : wm_M) (Q : Option Value → wm_M → Prop) (h : wm_OkI 0 191 [.ref 89, .int x1] μ (fun r2 μ1 => ((r2 = (0 : Int32) → wm_OkI 0 185 [.ref 89, .int (-3 : Int32)] μ1 (fun r4 μ3 => Q (some (.int r4)) μ3)) ∧ (¬ r2 = (0 : Int32) → wm_Wp 0 296 31 [.ref 89, .int x1, .null] μ1 Q)))) : wm_Wp 0 296 16 [.ref 89, .int x1, .null] μ Q := wm_vc mo_296 (rt := some .int) (by decide +kernel) mc_296 130 h
-- WindBoatModel.raise(I)I, the place 31
set_option maxRecDepth 100000 in
set_option maxHeartbeats 8000000 in
theorem w_296_31 (x1 : Int32) (μ : wm_M) (Q : Option Value → wm_M → Prop) (h : wm_OkI 0 188 [.ref 89, .int (9 : Int32)] μ (fun r2 μ1 => ((x1 = r2 → wm_Wp 0 296 49 [.ref 89, .null, .null] μ1 Q) ∧ (¬ x1 = r2 → wm_OkI 0 213 [.ref 89, .int x1] μ1 (fun r4 μ3 => ((r4 = (0 : Int32) → wm_Wp 0 296 49 [.ref 89, .null, .null] μ3 Q) ∧ (¬ r4 = (0 : Int32) → wm_Wp 0 296 56 [.ref 89, .int x1, .null] μ3 Q))))))) : wm_Wp 0 296 31 [.ref 89, .int x1, .null] μ Q := wm_vc mo_296 (rt := some .int) (by decide +kernel) mc_296 130 h
-- WindBoatModel.raise(I)I, the place 49
set_option maxRecDepth 100000 in
set_option maxHeartbeats 8000000 in
theorem w_296_49 (μ : wm_M) (Q : Option Value → wm_M → Prop) (h : wm_OkI 0 185 [.ref 89, .int (-7 : Int32)] μ (fun r2 μ1 => Q (some (.int r2)) μ1)) : wm_Wp 0 296 49 [.ref 89, .null, .null] μ Q := wm_vc mo_296 (rt := some .int) (by decide +kernel) mc_296 130 h
-- WindBoatModel.raise(I)I, the place 56
set_option maxRecDepth 100000 in
set_option maxHeartbeats 8000000 in
theorem w_296_56 (x1 : Int32) (μ : wm_M) (Q : Option Value → wm_M → Prop) (h : wm_OkI 0 222 [.ref 89] μ (fun r2 μ1 => wm_OkI 0 188 [.ref 89, .int (10 : Int32)] μ1 (fun r4 μ3 => (((r4 + r2) ≤ (120 : Int32) → wm_Wp 0 296 81 [.ref 89, .int x1, .int r2] μ3 Q) ∧ (¬ (r4 + r2) ≤ (120 : Int32) → wm_OkI 0 185 [.ref 89, .int (-8 : Int32)] μ3 (fun r6 μ5 => Q (some (.int r6)) μ5)))))) : wm_Wp 0 296 56 [.ref 89, .int x1, .null] μ Q := wm_vc mo_296 (rt := some .int) (by decide +kernel) mc_296 130 h
-- WindBoatModel.raise(I)I, the place 81
set_option maxRecDepth 100000 in
set_option maxHeartbeats 8000000 in
theorem w_296_81 (x1 : Int32) (x2 : Int32) (μ : wm_M) (Q : Option Value → wm_M → Prop) (h : wm_OkV 0 293 [.ref 89, .int x2] μ (fun μ1 => (vp_in (2049 : Int32) 2060 ∧ wm_OkI 0 188 [.ref 89, .int (10 : Int32)] (wm_si μ1 91 ((2049 : Int32)).toNatClampNeg x1) (fun r3 μ2 => Q (some (.int r3)) μ2)))) : wm_Wp 0 296 81 [.ref 89, .int x1, .int x2] μ Q := wm_vc mo_296 (rt := some .int) (by decide +kernel) mc_296 130 h
-- WindBoatModel.mend(I)I
set_option maxRecDepth 100000 in
set_option maxHeartbeats 8000000 in
theorem v_297 (a1 : Int32) (μ : wm_M) (Q : Option Value → wm_M → Prop) (h : wm_OkI 0 188 [.ref 89, .int (6 : Int32)] μ (fun r2 μ1 => ((r2 = (0 : Int32) → wm_OkI 0 185 [.ref 89, .int (-2 : Int32)] μ1 (fun r4 μ3 => Q (some (.int r4)) μ3)) ∧ (¬ r2 = (0 : Int32) → wm_Wp 0 297 16 [.ref 89, .int a1] μ1 Q)))) : wm_Ok 0 297 [.ref 89, .int a1] μ Q := wm_ent (nL := 2) (l := [.ref 89, .int a1]) (by decide +kernel) (by decide +kernel) (by decide +kernel) rfl rfl (wm_vc mo_297 (rt := some .int) (by decide +kernel) mc_297 118 h)
-- WindBoatModel.mend(I)I, the place 16
set_option maxRecDepth 100000 in
set_option maxHeartbeats 8000000 in
theorem w_297_16 (x1 : Int32) (μ : wm_M) (Q : Option Value → wm_M → Prop) (h : wm_OkI 0 191 [.ref 89, .int x1] μ (fun r2 μ1 => ((r2 = (0 : Int32) → wm_OkI 0 185 [.ref 89, .int (-3 : Int32)] μ1 (fun r4 μ3 => Q (some (.int r4)) μ3)) ∧ (¬ r2 = (0 : Int32) → wm_Wp 0 297 31 [.ref 89, .int x1] μ1 Q)))) : wm_Wp 0 297 16 [.ref 89, .int x1] μ Q := wm_vc mo_297 (rt := some .int) (by decide +kernel) mc_297 118 h
-- WindBoatModel.mend(I)I, the place 31
set_option maxRecDepth 100000 in
set_option maxHeartbeats 8000000 in
theorem w_297_31 (x1 : Int32) (μ : wm_M) (Q : Option Value → wm_M → Prop) (h : wm_OkI 0 213 [.ref 89, .int x1] μ (fun r2 μ1 => ((r2 = (0 : Int32) → wm_Wp 0 297 46 [.ref 89, .int x1] μ1 Q) ∧ (¬ r2 = (0 : Int32) → wm_OkI 0 185 [.ref 89, .int (-7 : Int32)] μ1 (fun r4 μ3 => Q (some (.int r4)) μ3))))) : wm_Wp 0 297 31 [.ref 89, .int x1] μ Q := wm_vc mo_297 (rt := some .int) (by decide +kernel) mc_297 118 h
-- WindBoatModel.mend(I)I, the place 46
set_option maxRecDepth 100000 in
set_option maxHeartbeats 8000000 in
theorem w_297_46 (x1 : Int32) (μ : wm_M) (Q : Option Value → wm_M → Prop) (h : wm_OkI 0 188 [.ref 89, .int (10 : Int32)] μ (fun r2 μ1 => (((r2 + (12 : Int32)) ≤ (120 : Int32) → wm_Wp 0 297 67 [.ref 89, .int x1] μ1 Q) ∧ (¬ (r2 + (12 : Int32)) ≤ (120 : Int32) → wm_OkI 0 185 [.ref 89, .int (-8 : Int32)] μ1 (fun r4 μ3 => Q (some (.int r4)) μ3))))) : wm_Wp 0 297 46 [.ref 89, .int x1] μ Q := wm_vc mo_297 (rt := some .int) (by decide +kernel) mc_297 118 h
-- WindBoatModel.mend(I)I, the place 67
set_option maxRecDepth 100000 in
set_option maxHeartbeats 8000000 in
theorem w_297_67 (x1 : Int32) (μ : wm_M) (Q : Option Value → wm_M → Prop) (h : wm_OkV 0 293 [.ref 89, .int (12 : Int32)] μ (fun μ1 => (vp_in ((452 : Int32) + x1) 2060 ∧ wm_OkI 0 188 [.ref 89, .int (10 : Int32)] (wm_si μ1 91 (((452 : Int32) + x1)).toNatClampNeg (0 : Int32)) (fun r3 μ2 => Q (some (.int r3)) μ2)))) : wm_Wp 0 297 67 [.ref 89, .int x1] μ Q := wm_vc mo_297 (rt := some .int) (by decide +kernel) mc_297 118 h
-- WindBoatModel.boat(I)I
set_option maxRecDepth 100000 in
set_option maxHeartbeats 8000000 in
theorem v_298 (a1 : Int32) (μ : wm_M) (Q : Option Value → wm_M → Prop) (h : wm_OkI 0 188 [.ref 89, .int (6 : Int32)] μ (fun r2 μ1 => ((r2 = (0 : Int32) → wm_OkI 0 185 [.ref 89, .int (-2 : Int32)] μ1 (fun r4 μ3 => Q (some (.int r4)) μ3)) ∧ (¬ r2 = (0 : Int32) → wm_Wp 0 298 16 [.ref 89, .int a1, .null, .null] μ1 Q)))) : wm_Ok 0 298 [.ref 89, .int a1] μ Q := wm_ent (nL := 4) (l := [.ref 89, .int a1, .null, .null]) (by decide +kernel) (by decide +kernel) (by decide +kernel) rfl rfl (wm_vc mo_298 (rt := some .int) (by decide +kernel) mc_298 142 h)
-- WindBoatModel.boat(I)I, the place 16
set_option maxRecDepth 100000 in
set_option maxHeartbeats 8000000 in
theorem w_298_16 (x1 : Int32) (μ : wm_M) (Q : Option Value → wm_M → Prop) (h : (((x1).toInt < 0 ∨ 7 < (x1).toInt → wm_Wp 0 298 139 [.ref 89, .null, .null, .null] μ Q) ∧ (((x1).toInt = 0 → wm_Wp 0 298 64 [.ref 89, .null, .null, .null] μ Q) ∧ (((x1).toInt = 1 → wm_Wp 0 298 71 [.ref 89, .null, .null, .null] μ Q) ∧ (((x1).toInt = 2 → wm_Wp 0 298 78 [.ref 89, .null, .null, .null] μ Q) ∧ (((x1).toInt = 3 → wm_Wp 0 298 85 [.ref 89, .null, .null, .null] μ Q) ∧ (((x1).toInt = 4 → wm_Wp 0 298 92 [.ref 89, .null, .null, .null] μ Q) ∧ (((x1).toInt = 5 → wm_Wp 0 298 97 [.ref 89, .null, .null, .null] μ Q) ∧ (((x1).toInt = 6 → wm_Wp 0 298 102 [.ref 89, .null, .null, .null] μ Q) ∧ (((x1).toInt = 7 → wm_Wp 0 298 107 [.ref 89, .null, .int (0 : Int32), .null] μ Q) ∧ True)))))))))) : wm_Wp 0 298 16 [.ref 89, .int x1, .null, .null] μ Q := wm_vc mo_298 (rt := some .int) (by decide +kernel) mc_298 142 h
-- WindBoatModel.boat(I)I, the place 64
set_option maxRecDepth 100000 in
set_option maxHeartbeats 8000000 in
theorem w_298_64 (μ : wm_M) (Q : Option Value → wm_M → Prop) (h : wm_OkI 0 188 [.ref 89, .int (7 : Int32)] μ (fun r2 μ1 => Q (some (.int r2)) μ1)) : wm_Wp 0 298 64 [.ref 89, .null, .null, .null] μ Q := wm_vc mo_298 (rt := some .int) (by decide +kernel) mc_298 142 h
-- WindBoatModel.boat(I)I, the place 71
set_option maxRecDepth 100000 in
set_option maxHeartbeats 8000000 in
theorem w_298_71 (μ : wm_M) (Q : Option Value → wm_M → Prop) (h : wm_OkI 0 188 [.ref 89, .int (8 : Int32)] μ (fun r2 μ1 => Q (some (.int r2)) μ1)) : wm_Wp 0 298 71 [.ref 89, .null, .null, .null] μ Q := wm_vc mo_298 (rt := some .int) (by decide +kernel) mc_298 142 h
-- WindBoatModel.boat(I)I, the place 78
set_option maxRecDepth 100000 in
set_option maxHeartbeats 8000000 in
theorem w_298_78 (μ : wm_M) (Q : Option Value → wm_M → Prop) (h : wm_OkI 0 188 [.ref 89, .int (9 : Int32)] μ (fun r2 μ1 => Q (some (.int r2)) μ1)) : wm_Wp 0 298 78 [.ref 89, .null, .null, .null] μ Q := wm_vc mo_298 (rt := some .int) (by decide +kernel) mc_298 142 h
-- WindBoatModel.boat(I)I, the place 85
set_option maxRecDepth 100000 in
set_option maxHeartbeats 8000000 in
theorem w_298_85 (μ : wm_M) (Q : Option Value → wm_M → Prop) (h : wm_OkI 0 188 [.ref 89, .int (10 : Int32)] μ (fun r2 μ1 => Q (some (.int r2)) μ1)) : wm_Wp 0 298 85 [.ref 89, .null, .null, .null] μ Q := wm_vc mo_298 (rt := some .int) (by decide +kernel) mc_298 142 h
-- WindBoatModel.boat(I)I, the place 92
set_option maxRecDepth 100000 in
set_option maxHeartbeats 8000000 in
theorem w_298_92 (μ : wm_M) (Q : Option Value → wm_M → Prop) (h : wm_OkI 0 222 [.ref 89] μ (fun r2 μ1 => Q (some (.int r2)) μ1)) : wm_Wp 0 298 92 [.ref 89, .null, .null, .null] μ Q := wm_vc mo_298 (rt := some .int) (by decide +kernel) mc_298 142 h
-- WindBoatModel.boat(I)I, the place 97
set_option maxRecDepth 100000 in
set_option maxHeartbeats 8000000 in
theorem w_298_97 (μ : wm_M) (Q : Option Value → wm_M → Prop) (h : wm_OkI 0 220 [.ref 89] μ (fun r2 μ1 => Q (some (.int r2)) μ1)) : wm_Wp 0 298 97 [.ref 89, .null, .null, .null] μ Q := wm_vc mo_298 (rt := some .int) (by decide +kernel) mc_298 142 h
-- WindBoatModel.boat(I)I, the place 102
set_option maxRecDepth 100000 in
set_option maxHeartbeats 8000000 in
theorem w_298_102 (μ : wm_M) (Q : Option Value → wm_M → Prop) (h : wm_OkI 0 221 [.ref 89] μ (fun r2 μ1 => Q (some (.int r2)) μ1)) : wm_Wp 0 298 102 [.ref 89, .null, .null, .null] μ Q := wm_vc mo_298 (rt := some .int) (by decide +kernel) mc_298 142 h
-- WindBoatModel.boat(I)I, the place 107
set_option maxRecDepth 100000 in
set_option maxHeartbeats 8000000 in
theorem w_298_107 (x2 : Int32) (μ : wm_M) (Q : Option Value → wm_M → Prop) (h : wm_Wp 0 298 109 [.ref 89, .null, .int x2, .int (0 : Int32)] μ Q) : wm_Wp 0 298 107 [.ref 89, .null, .int x2, .null] μ Q := wm_vc mo_298 (rt := some .int) (by decide +kernel) mc_298 142 h
-- WindBoatModel.boat(I)I, the place 109
set_option maxRecDepth 100000 in
set_option maxHeartbeats 8000000 in
theorem w_298_109 (x2 : Int32) (x3 : Int32) (μ : wm_M) (Q : Option Value → wm_M → Prop) (h : wm_OkI 0 188 [.ref 89, .int (1 : Int32)] μ (fun r2 μ1 => ((r2 ≤ x3 → wm_Wp 0 298 137 [.null, .null, .int x2, .null] μ1 Q) ∧ (¬ r2 ≤ x3 → (vp_in ((455 : Int32) + x3) 2060 ∧ wm_Wp 0 298 109 [.ref 89, .null, .int (x2 + (μ1.1 91 (((455 : Int32) + x3)).toNatClampNeg)), .int (x3 + (1 : Int32))] μ1 Q))))) : wm_Wp 0 298 109 [.ref 89, .null, .int x2, .int x3] μ Q := wm_vc mo_298 (rt := some .int) (by decide +kernel) mc_298 142 h
-- WindBoatModel.boat(I)I, the place 137
set_option maxRecDepth 100000 in
set_option maxHeartbeats 8000000 in
theorem w_298_137 (x2 : Int32) (μ : wm_M) (Q : Option Value → wm_M → Prop) (h : Q (some (.int x2)) μ) : wm_Wp 0 298 137 [.null, .null, .int x2, .null] μ Q := wm_vc mo_298 (rt := some .int) (by decide +kernel) mc_298 142 h
-- WindBoatModel.boat(I)I, the place 139
set_option maxRecDepth 100000 in
set_option maxHeartbeats 8000000 in
theorem w_298_139 (μ : wm_M) (Q : Option Value → wm_M → Prop) (h : wm_OkI 0 185 [.ref 89, .int (-7 : Int32)] μ (fun r2 μ1 => Q (some (.int r2)) μ1)) : wm_Wp 0 298 139 [.ref 89, .null, .null, .null] μ Q := wm_vc mo_298 (rt := some .int) (by decide +kernel) mc_298 142 h
-- WindBoatModel.sailed(II)I
set_option maxRecDepth 100000 in
set_option maxHeartbeats 8000000 in
theorem v_299 (a1 : Int32) (a2 : Int32) (μ : wm_M) (Q : Option Value → wm_M → Prop) (h : (((a2 &&& (4 : Int32)) = (0 : Int32) → wm_Wp 0 299 10 [.ref 89, .int a1, .int a2, .null, .null, .null, .null, .null, .null, .null, .null, .null, .null] μ Q) ∧ (¬ (a2 &&& (4 : Int32)) = (0 : Int32) → (((a2 &&& (1 : Int32)) = (0 : Int32) → wm_Wp 0 299 26 [.ref 89, .int a1, .int a2, .int (2 : Int32), .null, .null, .null, .null, .null, .null, .null, .null, .null] μ Q) ∧ (¬ (a2 &&& (1 : Int32)) = (0 : Int32) → (((a2 &&& (2 : Int32)) = (0 : Int32) → wm_OkI 0 188 [.ref 89, .int (12 : Int32)] μ (fun r2 μ1 => wm_OkV 0 250 [.ref 89, .int (6 : Int32), .int (0 : Int32), .int r2] μ1 (fun μ3 => wm_OkI 0 188 [.ref 89, .int (11 : Int32)] μ3 (fun r5 μ4 => wm_OkI 0 188 [.ref 89, .int (12 : Int32)] μ4 (fun r7 μ6 => wm_OkV 0 252 [.ref 89, .int (2 : Int32), .int r5, .int r7] μ6 (fun μ8 => wm_OkI 0 188 [.ref 89, .int (5 : Int32)] μ8 (fun r10 μ9 => wm_OkI 0 256 [.ref 89, .int (2 : Int32), .int r10] μ9 (fun r12 μ11 => ((r12 = (0 : Int32) → Q (some (.int (999 : Int32))) μ11) ∧ (¬ r12 = (0 : Int32) → wm_Wp 0 299 86 [.ref 89, .null, .null, .int (2 : Int32), .null, .null, .null, .null, .null, .null, .null, .null, .null] μ11 Q)))))))))) ∧ (¬ (a2 &&& (2 : Int32)) = (0 : Int32) → wm_OkI 0 188 [.ref 89, .int (12 : Int32)] μ (fun r14 μ13 => wm_OkV 0 250 [.ref 89, .int (6 : Int32), .int (1 : Int32), .int r14] μ13 (fun μ15 => wm_OkI 0 188 [.ref 89, .int (11 : Int32)] μ15 (fun r17 μ16 => wm_OkI 0 188 [.ref 89, .int (12 : Int32)] μ16 (fun r19 μ18 => wm_OkV 0 252 [.ref 89, .int (2 : Int32), .int r17, .int r19] μ18 (fun μ20 => wm_OkI 0 188 [.ref 89, .int (5 : Int32)] μ20 (fun r22 μ21 => wm_OkI 0 256 [.ref 89, .int (2 : Int32), .int r22] μ21 (fun r24 μ23 => ((r24 = (0 : Int32) → Q (some (.int (999 : Int32))) μ23) ∧ (¬ r24 = (0 : Int32) → wm_Wp 0 299 86 [.ref 89, .null, .null, .int (2 : Int32), .null, .null, .null, .null, .null, .null, .null, .null, .null] μ23 Q)))))))))))))))) : wm_Ok 0 299 [.ref 89, .int a1, .int a2] μ Q := wm_ent (nL := 13) (l := [.ref 89, .int a1, .int a2, .null, .null, .null, .null, .null, .null, .null, .null, .null, .null]) (by decide +kernel) (by decide +kernel) (by decide +kernel) rfl rfl (wm_vc mo_299 (rt := some .int) (by decide +kernel) mc_299 346 h)
-- WindBoatModel.sailed(II)I, the place 10
set_option maxRecDepth 100000 in
set_option maxHeartbeats 8000000 in
theorem w_299_10 (x1 : Int32) (x2 : Int32) (μ : wm_M) (Q : Option Value → wm_M → Prop) (h : wm_OkI 0 222 [.ref 89] μ (fun r2 μ1 => (((x2 &&& (1 : Int32)) = (0 : Int32) → wm_Wp 0 299 26 [.ref 89, .int x1, .int x2, .int r2, .null, .null, .null, .null, .null, .null, .null, .null, .null] μ1 Q) ∧ (¬ (x2 &&& (1 : Int32)) = (0 : Int32) → (((x2 &&& (2 : Int32)) = (0 : Int32) → wm_OkI 0 188 [.ref 89, .int (12 : Int32)] μ1 (fun r4 μ3 => wm_OkV 0 250 [.ref 89, .int (6 : Int32), .int (0 : Int32), .int r4] μ3 (fun μ5 => wm_OkI 0 188 [.ref 89, .int (11 : Int32)] μ5 (fun r7 μ6 => wm_OkI 0 188 [.ref 89, .int (12 : Int32)] μ6 (fun r9 μ8 => wm_OkV 0 252 [.ref 89, .int r2, .int r7, .int r9] μ8 (fun μ10 => wm_OkI 0 188 [.ref 89, .int (5 : Int32)] μ10 (fun r12 μ11 => wm_OkI 0 256 [.ref 89, .int r2, .int r12] μ11 (fun r14 μ13 => ((r14 = (0 : Int32) → Q (some (.int (999 : Int32))) μ13) ∧ (¬ r14 = (0 : Int32) → wm_Wp 0 299 86 [.ref 89, .null, .null, .int r2, .null, .null, .null, .null, .null, .null, .null, .null, .null] μ13 Q)))))))))) ∧ (¬ (x2 &&& (2 : Int32)) = (0 : Int32) → wm_OkI 0 188 [.ref 89, .int (12 : Int32)] μ1 (fun r16 μ15 => wm_OkV 0 250 [.ref 89, .int (6 : Int32), .int (1 : Int32), .int r16] μ15 (fun μ17 => wm_OkI 0 188 [.ref 89, .int (11 : Int32)] μ17 (fun r19 μ18 => wm_OkI 0 188 [.ref 89, .int (12 : Int32)] μ18 (fun r21 μ20 => wm_OkV 0 252 [.ref 89, .int r2, .int r19, .int r21] μ20 (fun μ22 => wm_OkI 0 188 [.ref 89, .int (5 : Int32)] μ22 (fun r24 μ23 => wm_OkI 0 256 [.ref 89, .int r2, .int r24] μ23 (fun r26 μ25 => ((r26 = (0 : Int32) → Q (some (.int (999 : Int32))) μ25) ∧ (¬ r26 = (0 : Int32) → wm_Wp 0 299 86 [.ref 89, .null, .null, .int r2, .null, .null, .null, .null, .null, .null, .null, .null, .null] μ25 Q))))))))))))))) : wm_Wp 0 299 10 [.ref 89, .int x1, .int x2, .null, .null, .null, .null, .null, .null, .null, .null, .null, .null] μ Q := wm_vc mo_299 (rt := some .int) (by decide +kernel) mc_299 346 h
-- WindBoatModel.sailed(II)I, the place 26
set_option maxRecDepth 100000 in
set_option maxHeartbeats 8000000 in
theorem w_299_26 (x1 : Int32) (x2 : Int32) (x3 : Int32) (μ : wm_M) (Q : Option Value → wm_M → Prop) (h : (((x2 &&& (2 : Int32)) = (0 : Int32) → wm_OkI 0 188 [.ref 89, .int (12 : Int32)] μ (fun r2 μ1 => wm_OkV 0 250 [.ref 89, .int x1, .int (0 : Int32), .int r2] μ1 (fun μ3 => wm_OkI 0 188 [.ref 89, .int (11 : Int32)] μ3 (fun r5 μ4 => wm_OkI 0 188 [.ref 89, .int (12 : Int32)] μ4 (fun r7 μ6 => wm_OkV 0 252 [.ref 89, .int x3, .int r5, .int r7] μ6 (fun μ8 => wm_OkI 0 188 [.ref 89, .int (5 : Int32)] μ8 (fun r10 μ9 => wm_OkI 0 256 [.ref 89, .int x3, .int r10] μ9 (fun r12 μ11 => ((r12 = (0 : Int32) → Q (some (.int (999 : Int32))) μ11) ∧ (¬ r12 = (0 : Int32) → wm_Wp 0 299 86 [.ref 89, .null, .null, .int x3, .null, .null, .null, .null, .null, .null, .null, .null, .null] μ11 Q)))))))))) ∧ (¬ (x2 &&& (2 : Int32)) = (0 : Int32) → wm_OkI 0 188 [.ref 89, .int (12 : Int32)] μ (fun r14 μ13 => wm_OkV 0 250 [.ref 89, .int x1, .int (1 : Int32), .int r14] μ13 (fun μ15 => wm_OkI 0 188 [.ref 89, .int (11 : Int32)] μ15 (fun r17 μ16 => wm_OkI 0 188 [.ref 89, .int (12 : Int32)] μ16 (fun r19 μ18 => wm_OkV 0 252 [.ref 89, .int x3, .int r17, .int r19] μ18 (fun μ20 => wm_OkI 0 188 [.ref 89, .int (5 : Int32)] μ20 (fun r22 μ21 => wm_OkI 0 256 [.ref 89, .int x3, .int r22] μ21 (fun r24 μ23 => ((r24 = (0 : Int32) → Q (some (.int (999 : Int32))) μ23) ∧ (¬ r24 = (0 : Int32) → wm_Wp 0 299 86 [.ref 89, .null, .null, .int x3, .null, .null, .null, .null, .null, .null, .null, .null, .null] μ23 Q)))))))))))) : wm_Wp 0 299 26 [.ref 89, .int x1, .int x2, .int x3, .null, .null, .null, .null, .null, .null, .null, .null, .null] μ Q := wm_vc mo_299 (rt := some .int) (by decide +kernel) mc_299 346 h
-- WindBoatModel.sailed(II)I, the place 86
set_option maxRecDepth 100000 in
set_option maxHeartbeats 8000000 in
theorem w_299_86 (x3 : Int32) (μ : wm_M) (Q : Option Value → wm_M → Prop) (h : wm_OkI 0 188 [.ref 89, .int (12 : Int32)] μ (fun r2 μ1 => wm_OkI 0 188 [.ref 89, .int (11 : Int32)] μ1 (fun r4 μ3 => wm_Wp 0 299 110 [.ref 89, .null, .null, .int x3, .null, .int r2, .int r4, .int ((μ3.1 89 27) - (1 : Int32)), .null, .null, .null, .null, .null] μ3 Q))) : wm_Wp 0 299 86 [.ref 89, .null, .null, .int x3, .null, .null, .null, .null, .null, .null, .null, .null, .null] μ Q := wm_vc mo_299 (rt := some .int) (by decide +kernel) mc_299 346 h
-- WindBoatModel.sailed(II)I, the place 110
set_option maxRecDepth 100000 in
set_option maxHeartbeats 8000000 in
theorem w_299_110 (x3 : Int32) (x5 : Int32) (x6 : Int32) (x7 : Int32) (μ : wm_M) (Q : Option Value → wm_M → Prop) (h : ((x7 < (0 : Int32) → wm_Wp 0 299 294 [.null, .null, .null, .null, .null, .int x5, .null, .null, .null, .null, .null, .null, .null] μ Q) ∧ (¬ x7 < (0 : Int32) → (vp_in x7 121 ∧ (¬ (10 : Int32) = 0 ∧ (vp_in x7 121 ∧ (¬ (10 : Int32) = 0 ∧ (¬ (24 : Int32) = 0 ∧ (¬ (3 : Int32) = 0 ∧ (¬ (8 : Int32) = 0 ∧ wm_OkI 0 248 [.int ((μ.1 97 (x7).toNatClampNeg) / (10 : Int32)), .int ((x6 / (3 : Int32)) - (x6 / (3 : Int32)) / (8 : Int32) * (8 : Int32))] μ (fun r2 μ1 => (¬ (3 : Int32) = 0 ∧ ((((μ.1 97 (x7).toNatClampNeg) - (μ.1 97 (x7).toNatClampNeg) / (10 : Int32) * (10 : Int32)) = (x6 - x6 / (3 : Int32) * (3 : Int32)) → wm_Wp 0 299 196 [.ref 89, .null, .null, .int x3, .null, .int (x5 + (r2 + (0 : Int32))), .null, .int x7, .int ((μ.1 97 (x7).toNatClampNeg) / (10 : Int32)), .int ((μ.1 97 (x7).toNatClampNeg) - (μ.1 97 (x7).toNatClampNeg) / (10 : Int32) * (10 : Int32)), .int (x6 / (24 : Int32)), .int (((3 : Int32) * (((8 : Int32) * (x6 / (24 : Int32))) + ((μ.1 97 (x7).toNatClampNeg) / (10 : Int32)))) + ((μ.1 97 (x7).toNatClampNeg) - (μ.1 97 (x7).toNatClampNeg) / (10 : Int32) * (10 : Int32))), .int (0 : Int32)] μ1 Q) ∧ (¬ ((μ.1 97 (x7).toNatClampNeg) - (μ.1 97 (x7).toNatClampNeg) / (10 : Int32) * (10 : Int32)) = (x6 - x6 / (3 : Int32) * (3 : Int32)) → wm_Wp 0 299 196 [.ref 89, .null, .null, .int x3, .null, .int (x5 + (r2 + x3)), .null, .int x7, .int ((μ.1 97 (x7).toNatClampNeg) / (10 : Int32)), .int ((μ.1 97 (x7).toNatClampNeg) - (μ.1 97 (x7).toNatClampNeg) / (10 : Int32) * (10 : Int32)), .int (x6 / (24 : Int32)), .int (((3 : Int32) * (((8 : Int32) * (x6 / (24 : Int32))) + ((μ.1 97 (x7).toNatClampNeg) / (10 : Int32)))) + ((μ.1 97 (x7).toNatClampNeg) - (μ.1 97 (x7).toNatClampNeg) / (10 : Int32) * (10 : Int32))), .int (0 : Int32)] μ1 Q)))))))))))))) : wm_Wp 0 299 110 [.ref 89, .null, .null, .int x3, .null, .int x5, .int x6, .int x7, .null, .null, .null, .null, .null] μ Q := wm_vc mo_299 (rt := some .int) (by decide +kernel) mc_299 346 h
-- WindBoatModel.sailed(II)I, the place 196
set_option maxRecDepth 100000 in
set_option maxHeartbeats 8000000 in
theorem w_299_196 (x3 : Int32) (x5 : Int32) (x7 : Int32) (x8 : Int32) (x9 : Int32) (x10 : Int32) (x11 : Int32) (x12 : Int32) (μ : wm_M) (Q : Option Value → wm_M → Prop) (h : ((x12 = (0 : Int32) → (((120 : Int32) ≤ x5 → wm_Wp 0 299 242 [.ref 89, .null, .null, .int x3, .null, .int x5, .null, .int x7, .int x8, .int x9, .int x10, .null, .int x12] μ Q) ∧ (¬ (120 : Int32) ≤ x5 → wm_OkI 0 192 [.int x5] μ (fun r2 μ1 => wm_OkI 0 249 [.ref 89, .int (6 : Int32), .int (1 : Int32), .int x11, .int r2] μ1 (fun r4 μ3 => ((r4 = (0 : Int32) → wm_Wp 0 299 196 [.ref 89, .null, .null, .int x3, .null, .int (x5 + (1 : Int32)), .null, .int x7, .int x8, .int x9, .int x10, .int x11, .int r4] μ3 Q) ∧ (¬ r4 = (0 : Int32) → wm_Wp 0 299 196 [.ref 89, .null, .null, .int x3, .null, .int (x5 + (0 : Int32)), .null, .int x7, .int x8, .int x9, .int x10, .int x11, .int r4] μ3 Q))))))) ∧ (¬ x12 = (0 : Int32) → wm_Wp 0 299 242 [.ref 89, .null, .null, .int x3, .null, .int x5, .null, .int x7, .int x8, .int x9, .int x10, .null, .int x12] μ Q))) : wm_Wp 0 299 196 [.ref 89, .null, .null, .int x3, .null, .int x5, .null, .int x7, .int x8, .int x9, .int x10, .int x11, .int x12] μ Q := wm_vc mo_299 (rt := some .int) (by decide +kernel) mc_299 346 h
-- WindBoatModel.sailed(II)I, the place 242
set_option maxRecDepth 100000 in
set_option maxHeartbeats 8000000 in
theorem w_299_242 (x3 : Int32) (x5 : Int32) (x7 : Int32) (x8 : Int32) (x9 : Int32) (x10 : Int32) (x12 : Int32) (μ : wm_M) (Q : Option Value → wm_M → Prop) (h : ((x12 = (0 : Int32) → wm_Wp 0 299 257 [.null, .null, .null, .null, .null, .null, .null, .null, .null, .null, .null, .null, .null] μ Q) ∧ (¬ x12 = (0 : Int32) → (((x5 + x12) ≤ (120 : Int32) → wm_Wp 0 299 261 [.ref 89, .null, .null, .int x3, .null, .int x5, .null, .int x7, .int x8, .int x9, .int x10, .null, .int x12] μ Q) ∧ (¬ (x5 + x12) ≤ (120 : Int32) → wm_Wp 0 299 257 [.null, .null, .null, .null, .null, .null, .null, .null, .null, .null, .null, .null, .null] μ Q))))) : wm_Wp 0 299 242 [.ref 89, .null, .null, .int x3, .null, .int x5, .null, .int x7, .int x8, .int x9, .int x10, .null, .int x12] μ Q := wm_vc mo_299 (rt := some .int) (by decide +kernel) mc_299 346 h
-- WindBoatModel.sailed(II)I, the place 257
set_option maxRecDepth 100000 in
set_option maxHeartbeats 8000000 in
theorem w_299_257 (μ : wm_M) (Q : Option Value → wm_M → Prop) (h : Q (some (.int (999 : Int32))) μ) : wm_Wp 0 299 257 [.null, .null, .null, .null, .null, .null, .null, .null, .null, .null, .null, .null, .null] μ Q := wm_vc mo_299 (rt := some .int) (by decide +kernel) mc_299 346 h
-- WindBoatModel.sailed(II)I, the place 261
set_option maxRecDepth 100000 in
set_option maxHeartbeats 8000000 in
theorem w_299_261 (x3 : Int32) (x5 : Int32) (x7 : Int32) (x8 : Int32) (x9 : Int32) (x10 : Int32) (x12 : Int32) (μ : wm_M) (Q : Option Value → wm_M → Prop) (h : wm_OkI 0 247 [.int x10, .int x8] μ (fun r2 μ1 => wm_Wp 0 299 110 [.ref 89, .null, .null, .int x3, .null, .int (x5 + x12), .int (((3 : Int32) * (((8 : Int32) * r2) + x8)) + x9), .int (x7 + (-1 : Int32)), .null, .null, .null, .null, .null] μ1 Q)) : wm_Wp 0 299 261 [.ref 89, .null, .null, .int x3, .null, .int x5, .null, .int x7, .int x8, .int x9, .int x10, .null, .int x12] μ Q := wm_vc mo_299 (rt := some .int) (by decide +kernel) mc_299 346 h
-- WindBoatModel.sailed(II)I, the place 294
set_option maxRecDepth 100000 in
set_option maxHeartbeats 8000000 in
theorem w_299_294 (x5 : Int32) (μ : wm_M) (Q : Option Value → wm_M → Prop) (h : Q (some (.int x5)) μ) : wm_Wp 0 299 294 [.null, .null, .null, .null, .null, .int x5, .null, .null, .null, .null, .null, .null, .null] μ Q := wm_vc mo_299 (rt := some .int) (by decide +kernel) mc_299 346 h
-- WindBoatModel.shareOf(I)I
set_option maxRecDepth 100000 in
set_option maxHeartbeats 8000000 in
theorem v_300 (a1 : Int32) (μ : wm_M) (Q : Option Value → wm_M → Prop) (h : (¬ (3 : Int32) = 0 ∧ (¬ (3 : Int32) = 0 ∧ (vp_in (0 : Int32) 8 ∧ (vp_in ((1 : Int32) <<< (a1 &&& 31)) 8 ∧ (vp_in ((1 : Int32) <<< (((a1 + (1 : Int32)) - (a1 + (1 : Int32)) / (3 : Int32) * (3 : Int32)) &&& 31)) 8 ∧ (vp_in (((1 : Int32) <<< (((a1 + (1 : Int32)) - (a1 + (1 : Int32)) / (3 : Int32) * (3 : Int32)) &&& 31)) ||| ((1 : Int32) <<< (a1 &&& 31))) 8 ∧ (vp_in ((1 : Int32) <<< (((a1 + (2 : Int32)) - (a1 + (2 : Int32)) / (3 : Int32) * (3 : Int32)) &&& 31)) 8 ∧ (vp_in (((1 : Int32) <<< (((a1 + (2 : Int32)) - (a1 + (2 : Int32)) / (3 : Int32) * (3 : Int32)) &&& 31)) ||| ((1 : Int32) <<< (a1 &&& 31))) 8 ∧ (vp_in (((1 : Int32) <<< (((a1 + (1 : Int32)) - (a1 + (1 : Int32)) / (3 : Int32) * (3 : Int32)) &&& 31)) ||| ((1 : Int32) <<< (((a1 + (2 : Int32)) - (a1 + (2 : Int32)) / (3 : Int32) * (3 : Int32)) &&& 31))) 8 ∧ (vp_in (7 : Int32) 8 ∧ Q (some (.int (((((((2 : Int32) * ((μ.1 109 ((0 : Int32)).toNatClampNeg) - (μ.1 109 (((1 : Int32) <<< (a1 &&& 31))).toNatClampNeg))) + (μ.1 109 (((1 : Int32) <<< (((a1 + (1 : Int32)) - (a1 + (1 : Int32)) / (3 : Int32) * (3 : Int32)) &&& 31))).toNatClampNeg)) - (μ.1 109 ((((1 : Int32) <<< (((a1 + (1 : Int32)) - (a1 + (1 : Int32)) / (3 : Int32) * (3 : Int32)) &&& 31)) ||| ((1 : Int32) <<< (a1 &&& 31)))).toNatClampNeg)) + (μ.1 109 (((1 : Int32) <<< (((a1 + (2 : Int32)) - (a1 + (2 : Int32)) / (3 : Int32) * (3 : Int32)) &&& 31))).toNatClampNeg)) - (μ.1 109 ((((1 : Int32) <<< (((a1 + (2 : Int32)) - (a1 + (2 : Int32)) / (3 : Int32) * (3 : Int32)) &&& 31)) ||| ((1 : Int32) <<< (a1 &&& 31)))).toNatClampNeg)) + ((2 : Int32) * ((μ.1 109 ((((1 : Int32) <<< (((a1 + (1 : Int32)) - (a1 + (1 : Int32)) / (3 : Int32) * (3 : Int32)) &&& 31)) ||| ((1 : Int32) <<< (((a1 + (2 : Int32)) - (a1 + (2 : Int32)) / (3 : Int32) * (3 : Int32)) &&& 31)))).toNatClampNeg) - (μ.1 109 ((7 : Int32)).toNatClampNeg)))))) μ))))))))))) : wm_Ok 0 300 [.ref 89, .int a1] μ Q := wm_ent (nL := 5) (l := [.ref 89, .int a1, .null, .null, .null]) (by decide +kernel) (by decide +kernel) (by decide +kernel) rfl rfl (wm_vc mo_300 (rt := some .int) (by decide +kernel) mc_300 160 h)
-- WindBoatModel.lost(II)I
set_option maxRecDepth 100000 in
set_option maxHeartbeats 8000000 in
theorem v_301 (a1 : Int32) (a2 : Int32) (μ : wm_M) (Q : Option Value → wm_M → Prop) (h : wm_OkI 0 188 [.ref 89, .int (6 : Int32)] μ (fun r2 μ1 => ((r2 = (0 : Int32) → wm_OkI 0 185 [.ref 89, .int (-2 : Int32)] μ1 (fun r4 μ3 => Q (some (.int r4)) μ3)) ∧ (¬ r2 = (0 : Int32) → wm_Wp 0 301 16 [.ref 89, .int a1, .int a2, .null] μ1 Q)))) : wm_Ok 0 301 [.ref 89, .int a1, .int a2] μ Q := wm_ent (nL := 4) (l := [.ref 89, .int a1, .int a2, .null]) (by decide +kernel) (by decide +kernel) (by decide +kernel) rfl rfl (wm_vc mo_301 (rt := some .int) (by decide +kernel) mc_301 148 h)
-- WindBoatModel.lost(II)I, the place 16
set_option maxRecDepth 100000 in
set_option maxHeartbeats 8000000 in
theorem w_301_16 (x1 : Int32) (x2 : Int32) (μ : wm_M) (Q : Option Value → wm_M → Prop) (h : wm_OkI 0 262 [.int x1] μ (fun r2 μ1 => ((r2 = (0 : Int32) → wm_OkI 0 185 [.ref 89, .int (-3 : Int32)] μ1 (fun r4 μ3 => Q (some (.int r4)) μ3)) ∧ (¬ r2 = (0 : Int32) → wm_Wp 0 301 30 [.ref 89, .int x1, .int x2, .null] μ1 Q)))) : wm_Wp 0 301 16 [.ref 89, .int x1, .int x2, .null] μ Q := wm_vc mo_301 (rt := some .int) (by decide +kernel) mc_301 148 h
-- WindBoatModel.lost(II)I, the place 30
set_option maxRecDepth 100000 in
set_option maxHeartbeats 8000000 in
theorem w_301_30 (x1 : Int32) (x2 : Int32) (μ : wm_M) (Q : Option Value → wm_M → Prop) (h : wm_OkI 0 184 [.int x2, .int (0 : Int32), .int (4 : Int32)] μ (fun r2 μ1 => ((r2 = (0 : Int32) → wm_OkI 0 185 [.ref 89, .int (-7 : Int32)] μ1 (fun r4 μ3 => Q (some (.int r4)) μ3)) ∧ (¬ r2 = (0 : Int32) → wm_Wp 0 301 46 [.ref 89, .int x1, .int x2, .null] μ1 Q)))) : wm_Wp 0 301 30 [.ref 89, .int x1, .int x2, .null] μ Q := wm_vc mo_301 (rt := some .int) (by decide +kernel) mc_301 148 h
-- WindBoatModel.lost(II)I, the place 46
set_option maxRecDepth 100000 in
set_option maxHeartbeats 8000000 in
theorem w_301_46 (x1 : Int32) (x2 : Int32) (μ : wm_M) (Q : Option Value → wm_M → Prop) (h : wm_OkI 0 188 [.ref 89, .int (12 : Int32)] μ (fun r2 μ1 => wm_OkV 0 246 [.ref 89, .int r2] μ1 (fun μ3 => wm_Wp 0 301 58 [.ref 89, .int x1, .int x2, .int (0 : Int32)] μ3 Q))) : wm_Wp 0 301 46 [.ref 89, .int x1, .int x2, .null] μ Q := wm_vc mo_301 (rt := some .int) (by decide +kernel) mc_301 148 h
-- WindBoatModel.lost(II)I, the place 58
set_option maxRecDepth 100000 in
set_option maxHeartbeats 8000000 in
theorem w_301_58 (x1 : Int32) (x2 : Int32) (x3 : Int32) (μ : wm_M) (Q : Option Value → wm_M → Prop) (h : (((8 : Int32) ≤ x3 → wm_Wp 0 301 82 [.ref 89, .null, .int x2, .null] μ Q) ∧ (¬ (8 : Int32) ≤ x3 → wm_OkI 0 299 [.ref 89, .int x1, .int x3] μ (fun r2 μ1 => (vp_in x3 8 ∧ wm_Wp 0 301 58 [.ref 89, .int x1, .int x2, .int (x3 + (1 : Int32))] (wm_si μ1 109 (x3).toNatClampNeg r2) Q))))) : wm_Wp 0 301 58 [.ref 89, .int x1, .int x2, .int x3] μ Q := wm_vc mo_301 (rt := some .int) (by decide +kernel) mc_301 148 h
-- WindBoatModel.lost(II)I, the place 82
set_option maxRecDepth 100000 in
set_option maxHeartbeats 8000000 in
theorem w_301_82 (x2 : Int32) (μ : wm_M) (Q : Option Value → wm_M → Prop) (h : ((x2 = (3 : Int32) → (vp_in (0 : Int32) 8 ∧ Q (some (.int (μ.1 109 ((0 : Int32)).toNatClampNeg))) μ)) ∧ (¬ x2 = (3 : Int32) → wm_Wp 0 301 96 [.ref 89, .null, .int x2, .null] μ Q))) : wm_Wp 0 301 82 [.ref 89, .null, .int x2, .null] μ Q := wm_vc mo_301 (rt := some .int) (by decide +kernel) mc_301 148 h
-- WindBoatModel.lost(II)I, the place 96
set_option maxRecDepth 100000 in
set_option maxHeartbeats 8000000 in
theorem w_301_96 (x2 : Int32) (μ : wm_M) (Q : Option Value → wm_M → Prop) (h : ((x2 = (4 : Int32) → (vp_in (7 : Int32) 8 ∧ Q (some (.int (μ.1 109 ((7 : Int32)).toNatClampNeg))) μ)) ∧ (¬ x2 = (4 : Int32) → wm_Wp 0 301 111 [.ref 89, .null, .int x2, .null] μ Q))) : wm_Wp 0 301 96 [.ref 89, .null, .int x2, .null] μ Q := wm_vc mo_301 (rt := some .int) (by decide +kernel) mc_301 148 h
-- WindBoatModel.lost(II)I, the place 111
set_option maxRecDepth 100000 in
set_option maxHeartbeats 8000000 in
theorem w_301_111 (x2 : Int32) (μ : wm_M) (Q : Option Value → wm_M → Prop) (h : wm_OkI 0 300 [.ref 89, .int x2] μ (fun r2 μ1 => Q (some (.int r2)) μ1)) : wm_Wp 0 301 111 [.ref 89, .null, .int x2, .null] μ Q := wm_vc mo_301 (rt := some .int) (by decide +kernel) mc_301 148 h
-- WindBoatModel.count(I)I
set_option maxRecDepth 100000 in
set_option maxHeartbeats 8000000 in
theorem v_302 (a1 : Int32) (μ : wm_M) (Q : Option Value → wm_M → Prop) (h : (((a1).toInt < 0 ∨ 11 < (a1).toInt → wm_Wp 0 302 256 [.ref 89, .null, .null, .null] μ Q) ∧ (((a1).toInt = 0 → wm_Wp 0 302 64 [.ref 89, .null, .int (0 : Int32), .null] μ Q) ∧ (((a1).toInt = 1 → wm_Wp 0 302 91 [.ref 89, .null, .int (0 : Int32), .null] μ Q) ∧ (((a1).toInt = 2 → wm_Wp 0 302 120 [.ref 89, .null, .null, .null] μ Q) ∧ (((a1).toInt = 3 → wm_Wp 0 302 126 [.ref 89, .null, .int (0 : Int32), .null] μ Q) ∧ (((a1).toInt = 4 → wm_Wp 0 302 158 [.ref 89, .null, .null, .null] μ Q) ∧ (((a1).toInt = 5 → wm_Wp 0 302 164 [.ref 89, .null, .null, .null] μ Q) ∧ (((a1).toInt = 6 → wm_Wp 0 302 170 [.ref 89, .null, .null, .null] μ Q) ∧ (((a1).toInt = 7 → wm_Wp 0 302 175 [.ref 89, .null, .int (0 : Int32), .null] μ Q) ∧ (((a1).toInt = 8 → wm_Wp 0 302 204 [.ref 89, .null, .int (0 : Int32), .null] μ Q) ∧ (((a1).toInt = 9 → wm_Wp 0 302 236 [.ref 89, .null, .null, .null] μ Q) ∧ (((a1).toInt = 10 → wm_Wp 0 302 243 [.ref 89, .null, .null, .null] μ Q) ∧ (((a1).toInt = 11 → wm_Wp 0 302 249 [.ref 89, .null, .null, .null] μ Q) ∧ True)))))))))))))) : wm_Ok 0 302 [.ref 89, .int a1] μ Q := wm_ent (nL := 4) (l := [.ref 89, .int a1, .null, .null]) (by decide +kernel) (by decide +kernel) (by decide +kernel) rfl rfl (wm_vc mo_302 (rt := some .int) (by decide +kernel) mc_302 276 h)
-- WindBoatModel.count(I)I, the place 64
set_option maxRecDepth 100000 in
set_option maxHeartbeats 8000000 in
theorem w_302_64 (x2 : Int32) (μ : wm_M) (Q : Option Value → wm_M → Prop) (h : wm_Wp 0 302 66 [.ref 89, .null, .int x2, .int (0 : Int32)] μ Q) : wm_Wp 0 302 64 [.ref 89, .null, .int x2, .null] μ Q := wm_vc mo_302 (rt := some .int) (by decide +kernel) mc_302 276 h
-- WindBoatModel.count(I)I, the place 66
set_option maxRecDepth 100000 in
set_option maxHeartbeats 8000000 in
theorem w_302_66 (x2 : Int32) (x3 : Int32) (μ : wm_M) (Q : Option Value → wm_M → Prop) (h : (((36 : Int32) ≤ x3 → wm_Wp 0 302 89 [.null, .null, .int x2, .null] μ Q) ∧ (¬ (36 : Int32) ≤ x3 → (vp_in ((0 : Int32) + x3) 2060 ∧ wm_Wp 0 302 66 [.ref 89, .null, .int (x2 + (μ.1 91 (((0 : Int32) + x3)).toNatClampNeg)), .int (x3 + (1 : Int32))] μ Q)))) : wm_Wp 0 302 66 [.ref 89, .null, .int x2, .int x3] μ Q := wm_vc mo_302 (rt := some .int) (by decide +kernel) mc_302 276 h
-- WindBoatModel.count(I)I, the place 89
set_option maxRecDepth 100000 in
set_option maxHeartbeats 8000000 in
theorem w_302_89 (x2 : Int32) (μ : wm_M) (Q : Option Value → wm_M → Prop) (h : Q (some (.int x2)) μ) : wm_Wp 0 302 89 [.null, .null, .int x2, .null] μ Q := wm_vc mo_302 (rt := some .int) (by decide +kernel) mc_302 276 h
-- WindBoatModel.count(I)I, the place 91
set_option maxRecDepth 100000 in
set_option maxHeartbeats 8000000 in
theorem w_302_91 (x2 : Int32) (μ : wm_M) (Q : Option Value → wm_M → Prop) (h : wm_Wp 0 302 93 [.ref 89, .null, .int x2, .int (0 : Int32)] μ Q) : wm_Wp 0 302 91 [.ref 89, .null, .int x2, .null] μ Q := wm_vc mo_302 (rt := some .int) (by decide +kernel) mc_302 276 h
-- WindBoatModel.count(I)I, the place 93
set_option maxRecDepth 100000 in
set_option maxHeartbeats 8000000 in
theorem w_302_93 (x2 : Int32) (x3 : Int32) (μ : wm_M) (Q : Option Value → wm_M → Prop) (h : (((84 : Int32) ≤ x3 → wm_Wp 0 302 118 [.null, .null, .int x2, .null] μ Q) ∧ (¬ (84 : Int32) ≤ x3 → (vp_in ((240 : Int32) + x3) 2060 ∧ wm_Wp 0 302 93 [.ref 89, .null, .int (x2 + (μ.1 91 (((240 : Int32) + x3)).toNatClampNeg)), .int (x3 + (1 : Int32))] μ Q)))) : wm_Wp 0 302 93 [.ref 89, .null, .int x2, .int x3] μ Q := wm_vc mo_302 (rt := some .int) (by decide +kernel) mc_302 276 h
-- WindBoatModel.count(I)I, the place 118
set_option maxRecDepth 100000 in
set_option maxHeartbeats 8000000 in
theorem w_302_118 (x2 : Int32) (μ : wm_M) (Q : Option Value → wm_M → Prop) (h : Q (some (.int x2)) μ) : wm_Wp 0 302 118 [.null, .null, .int x2, .null] μ Q := wm_vc mo_302 (rt := some .int) (by decide +kernel) mc_302 276 h
-- WindBoatModel.count(I)I, the place 120
set_option maxRecDepth 100000 in
set_option maxHeartbeats 8000000 in
theorem w_302_120 (μ : wm_M) (Q : Option Value → wm_M → Prop) (h : wm_OkI 0 188 [.ref 89, .int (0 : Int32)] μ (fun r2 μ1 => Q (some (.int r2)) μ1)) : wm_Wp 0 302 120 [.ref 89, .null, .null, .null] μ Q := wm_vc mo_302 (rt := some .int) (by decide +kernel) mc_302 276 h
-- WindBoatModel.count(I)I, the place 126
set_option maxRecDepth 100000 in
set_option maxHeartbeats 8000000 in
theorem w_302_126 (x2 : Int32) (μ : wm_M) (Q : Option Value → wm_M → Prop) (h : wm_Wp 0 302 128 [.ref 89, .null, .int x2, .int (0 : Int32)] μ Q) : wm_Wp 0 302 126 [.ref 89, .null, .int x2, .null] μ Q := wm_vc mo_302 (rt := some .int) (by decide +kernel) mc_302 276 h
-- WindBoatModel.count(I)I, the place 128
set_option maxRecDepth 100000 in
set_option maxHeartbeats 8000000 in
theorem w_302_128 (x2 : Int32) (x3 : Int32) (μ : wm_M) (Q : Option Value → wm_M → Prop) (h : wm_OkI 0 188 [.ref 89, .int (0 : Int32)] μ (fun r2 μ1 => ((r2 ≤ x3 → wm_Wp 0 302 156 [.null, .null, .int x2, .null] μ1 Q) ∧ (¬ r2 ≤ x3 → (vp_in ((452 : Int32) + x3) 2060 ∧ wm_Wp 0 302 128 [.ref 89, .null, .int (x2 + (μ1.1 91 (((452 : Int32) + x3)).toNatClampNeg)), .int (x3 + (1 : Int32))] μ1 Q))))) : wm_Wp 0 302 128 [.ref 89, .null, .int x2, .int x3] μ Q := wm_vc mo_302 (rt := some .int) (by decide +kernel) mc_302 276 h
-- WindBoatModel.count(I)I, the place 156
set_option maxRecDepth 100000 in
set_option maxHeartbeats 8000000 in
theorem w_302_156 (x2 : Int32) (μ : wm_M) (Q : Option Value → wm_M → Prop) (h : Q (some (.int x2)) μ) : wm_Wp 0 302 156 [.null, .null, .int x2, .null] μ Q := wm_vc mo_302 (rt := some .int) (by decide +kernel) mc_302 276 h
-- WindBoatModel.count(I)I, the place 158
set_option maxRecDepth 100000 in
set_option maxHeartbeats 8000000 in
theorem w_302_158 (μ : wm_M) (Q : Option Value → wm_M → Prop) (h : wm_OkI 0 188 [.ref 89, .int (1 : Int32)] μ (fun r2 μ1 => Q (some (.int r2)) μ1)) : wm_Wp 0 302 158 [.ref 89, .null, .null, .null] μ Q := wm_vc mo_302 (rt := some .int) (by decide +kernel) mc_302 276 h
-- WindBoatModel.count(I)I, the place 164
set_option maxRecDepth 100000 in
set_option maxHeartbeats 8000000 in
theorem w_302_164 (μ : wm_M) (Q : Option Value → wm_M → Prop) (h : wm_OkI 0 188 [.ref 89, .int (2 : Int32)] μ (fun r2 μ1 => Q (some (.int r2)) μ1)) : wm_Wp 0 302 164 [.ref 89, .null, .null, .null] μ Q := wm_vc mo_302 (rt := some .int) (by decide +kernel) mc_302 276 h
-- WindBoatModel.count(I)I, the place 170
set_option maxRecDepth 100000 in
set_option maxHeartbeats 8000000 in
theorem w_302_170 (μ : wm_M) (Q : Option Value → wm_M → Prop) (h : Q (some (.int (μ.1 89 4))) μ) : wm_Wp 0 302 170 [.ref 89, .null, .null, .null] μ Q := wm_vc mo_302 (rt := some .int) (by decide +kernel) mc_302 276 h
-- WindBoatModel.count(I)I, the place 175
set_option maxRecDepth 100000 in
set_option maxHeartbeats 8000000 in
theorem w_302_175 (x2 : Int32) (μ : wm_M) (Q : Option Value → wm_M → Prop) (h : wm_Wp 0 302 177 [.ref 89, .null, .int x2, .int (0 : Int32)] μ Q) : wm_Wp 0 302 175 [.ref 89, .null, .int x2, .null] μ Q := wm_vc mo_302 (rt := some .int) (by decide +kernel) mc_302 276 h
-- WindBoatModel.count(I)I, the place 177
set_option maxRecDepth 100000 in
set_option maxHeartbeats 8000000 in
theorem w_302_177 (x2 : Int32) (x3 : Int32) (μ : wm_M) (Q : Option Value → wm_M → Prop) (h : (((25 : Int32) ≤ x3 → wm_Wp 0 302 202 [.null, .null, .int x2, .null] μ Q) ∧ (¬ (25 : Int32) ≤ x3 → (vp_in ((349 : Int32) + x3) 2060 ∧ wm_Wp 0 302 177 [.ref 89, .null, .int (x2 + (μ.1 91 (((349 : Int32) + x3)).toNatClampNeg)), .int (x3 + (1 : Int32))] μ Q)))) : wm_Wp 0 302 177 [.ref 89, .null, .int x2, .int x3] μ Q := wm_vc mo_302 (rt := some .int) (by decide +kernel) mc_302 276 h
-- WindBoatModel.count(I)I, the place 202
set_option maxRecDepth 100000 in
set_option maxHeartbeats 8000000 in
theorem w_302_202 (x2 : Int32) (μ : wm_M) (Q : Option Value → wm_M → Prop) (h : Q (some (.int x2)) μ) : wm_Wp 0 302 202 [.null, .null, .int x2, .null] μ Q := wm_vc mo_302 (rt := some .int) (by decide +kernel) mc_302 276 h
-- WindBoatModel.count(I)I, the place 204
set_option maxRecDepth 100000 in
set_option maxHeartbeats 8000000 in
theorem w_302_204 (x2 : Int32) (μ : wm_M) (Q : Option Value → wm_M → Prop) (h : wm_Wp 0 302 206 [.ref 89, .null, .int x2, .int (0 : Int32)] μ Q) : wm_Wp 0 302 204 [.ref 89, .null, .int x2, .null] μ Q := wm_vc mo_302 (rt := some .int) (by decide +kernel) mc_302 276 h
-- WindBoatModel.count(I)I, the place 206
set_option maxRecDepth 100000 in
set_option maxHeartbeats 8000000 in
theorem w_302_206 (x2 : Int32) (x3 : Int32) (μ : wm_M) (Q : Option Value → wm_M → Prop) (h : (((6 : Int32) ≤ x3 → wm_Wp 0 302 234 [.null, .null, .int x2, .null] μ Q) ∧ (¬ (6 : Int32) ≤ x3 → wm_OkI 0 266 [.ref 89, .int x3] μ (fun r2 μ1 => ((r2 = (0 : Int32) → wm_Wp 0 302 206 [.ref 89, .null, .int (x2 + (0 : Int32)), .int (x3 + (1 : Int32))] μ1 Q) ∧ (¬ r2 = (0 : Int32) → wm_Wp 0 302 206 [.ref 89, .null, .int (x2 + (1 : Int32)), .int (x3 + (1 : Int32))] μ1 Q)))))) : wm_Wp 0 302 206 [.ref 89, .null, .int x2, .int x3] μ Q := wm_vc mo_302 (rt := some .int) (by decide +kernel) mc_302 276 h
-- WindBoatModel.count(I)I, the place 234
set_option maxRecDepth 100000 in
set_option maxHeartbeats 8000000 in
theorem w_302_234 (x2 : Int32) (μ : wm_M) (Q : Option Value → wm_M → Prop) (h : Q (some (.int x2)) μ) : wm_Wp 0 302 234 [.null, .null, .int x2, .null] μ Q := wm_vc mo_302 (rt := some .int) (by decide +kernel) mc_302 276 h
-- WindBoatModel.count(I)I, the place 236
set_option maxRecDepth 100000 in
set_option maxHeartbeats 8000000 in
theorem w_302_236 (μ : wm_M) (Q : Option Value → wm_M → Prop) (h : wm_OkI 0 188 [.ref 89, .int (13 : Int32)] μ (fun r2 μ1 => Q (some (.int r2)) μ1)) : wm_Wp 0 302 236 [.ref 89, .null, .null, .null] μ Q := wm_vc mo_302 (rt := some .int) (by decide +kernel) mc_302 276 h
-- WindBoatModel.count(I)I, the place 243
set_option maxRecDepth 100000 in
set_option maxHeartbeats 8000000 in
theorem w_302_243 (μ : wm_M) (Q : Option Value → wm_M → Prop) (h : wm_OkI 0 188 [.ref 89, .int (5 : Int32)] μ (fun r2 μ1 => Q (some (.int r2)) μ1)) : wm_Wp 0 302 243 [.ref 89, .null, .null, .null] μ Q := wm_vc mo_302 (rt := some .int) (by decide +kernel) mc_302 276 h
-- WindBoatModel.count(I)I, the place 249
set_option maxRecDepth 100000 in
set_option maxHeartbeats 8000000 in
theorem w_302_249 (μ : wm_M) (Q : Option Value → wm_M → Prop) (h : wm_OkI 0 188 [.ref 89, .int (6 : Int32)] μ (fun r2 μ1 => Q (some (.int r2)) μ1)) : wm_Wp 0 302 249 [.ref 89, .null, .null, .null] μ Q := wm_vc mo_302 (rt := some .int) (by decide +kernel) mc_302 276 h
-- WindBoatModel.count(I)I, the place 256
set_option maxRecDepth 100000 in
set_option maxHeartbeats 8000000 in
theorem w_302_256 (μ : wm_M) (Q : Option Value → wm_M → Prop) (h : wm_OkI 0 186 [.ref 89, .int (-7 : Int32)] μ (fun r2 μ1 => Q (some (.int r2)) μ1)) : wm_Wp 0 302 256 [.ref 89, .null, .null, .null] μ Q := wm_vc mo_302 (rt := some .int) (by decide +kernel) mc_302 276 h
-- WindBoatModel.image()I
set_option maxRecDepth 100000 in
set_option maxHeartbeats 8000000 in
theorem v_303 (μ : wm_M) (Q : Option Value → wm_M → Prop) (h : wm_Wp 0 303 2 [.ref 89, .int (0 : Int32)] μ Q) : wm_Ok 0 303 [.ref 89] μ Q := wm_ent (nL := 2) (l := [.ref 89, .null]) (by decide +kernel) (by decide +kernel) (by decide +kernel) rfl rfl (wm_vc mo_303 (rt := some .int) (by decide +kernel) mc_303 78 h)
-- WindBoatModel.image()I, the place 2
set_option maxRecDepth 100000 in
set_option maxHeartbeats 8000000 in
theorem w_303_2 (x1 : Int32) (μ : wm_M) (Q : Option Value → wm_M → Prop) (h : (((2060 : Int32) ≤ x1 → wm_Wp 0 303 27 [.ref 89, .null] μ Q) ∧ (¬ (2060 : Int32) ≤ x1 → (vp_in x1 2060 ∧ (vp_in x1 2060 ∧ wm_Wp 0 303 2 [.ref 89, .int (x1 + (1 : Int32))] (wm_si μ 110 (x1).toNatClampNeg (μ.1 91 (x1).toNatClampNeg)) Q))))) : wm_Wp 0 303 2 [.ref 89, .int x1] μ Q := wm_vc mo_303 (rt := some .int) (by decide +kernel) mc_303 78 h
-- WindBoatModel.image()I, the place 27
set_option maxRecDepth 100000 in
set_option maxHeartbeats 8000000 in
theorem w_303_27 (μ : wm_M) (Q : Option Value → wm_M → Prop) (h : (((1 : Int32) = 0 ∨ (1 : Int32) = 1) ∧ wm_OkI 0 188 [.ref 89, .int (6 : Int32)] (wm_si μ 89 46 (1 : Int32)) (fun r2 μ1 => ((r2 = (1 : Int32) → wm_OkI 0 188 [.ref 89, .int (10 : Int32)] μ1 (fun r4 μ3 => Q (some (.int r4)) μ3)) ∧ (¬ r2 = (1 : Int32) → wm_Wp 0 303 51 [.null, .null] μ1 Q))))) : wm_Wp 0 303 27 [.ref 89, .null] μ Q := wm_vc mo_303 (rt := some .int) (by decide +kernel) mc_303 78 h
-- WindBoatModel.image()I, the place 51
set_option maxRecDepth 100000 in
set_option maxHeartbeats 8000000 in
theorem w_303_51 (μ : wm_M) (Q : Option Value → wm_M → Prop) (h : Q (some (.int (0 : Int32))) μ) : wm_Wp 0 303 51 [.null, .null] μ Q := wm_vc mo_303 (rt := some .int) (by decide +kernel) mc_303 78 h
-- WindBoatModel.back()I
set_option maxRecDepth 100000 in
set_option maxHeartbeats 8000000 in
theorem v_304 (μ : wm_M) (Q : Option Value → wm_M → Prop) (h : (((μ.1 89 46) = (0 : Int32) → wm_OkI 0 185 [.ref 89, .int (-2 : Int32)] μ (fun r2 μ1 => Q (some (.int r2)) μ1)) ∧ (¬ (μ.1 89 46) = (0 : Int32) → wm_Wp 0 304 14 [.ref 89, .null] μ Q))) : wm_Ok 0 304 [.ref 89] μ Q := wm_ent (nL := 2) (l := [.ref 89, .null]) (by decide +kernel) (by decide +kernel) (by decide +kernel) rfl rfl (wm_vc mo_304 (rt := some .int) (by decide +kernel) mc_304 86 h)
-- WindBoatModel.back()I, the place 14
set_option maxRecDepth 100000 in
set_option maxHeartbeats 8000000 in
theorem w_304_14 (μ : wm_M) (Q : Option Value → wm_M → Prop) (h : wm_Wp 0 304 16 [.ref 89, .int (0 : Int32)] μ Q) : wm_Wp 0 304 14 [.ref 89, .null] μ Q := wm_vc mo_304 (rt := some .int) (by decide +kernel) mc_304 86 h
-- WindBoatModel.back()I, the place 16
set_option maxRecDepth 100000 in
set_option maxHeartbeats 8000000 in
theorem w_304_16 (x1 : Int32) (μ : wm_M) (Q : Option Value → wm_M → Prop) (h : (((2060 : Int32) ≤ x1 → wm_Wp 0 304 41 [.ref 89, .null] μ Q) ∧ (¬ (2060 : Int32) ≤ x1 → (vp_in x1 2060 ∧ (vp_in x1 2060 ∧ wm_Wp 0 304 16 [.ref 89, .int (x1 + (1 : Int32))] (wm_si μ 91 (x1).toNatClampNeg (μ.1 110 (x1).toNatClampNeg)) Q))))) : wm_Wp 0 304 16 [.ref 89, .int x1] μ Q := wm_vc mo_304 (rt := some .int) (by decide +kernel) mc_304 86 h
-- WindBoatModel.back()I, the place 41
set_option maxRecDepth 100000 in
set_option maxHeartbeats 8000000 in
theorem w_304_41 (μ : wm_M) (Q : Option Value → wm_M → Prop) (h : wm_OkI 0 188 [.ref 89, .int (6 : Int32)] μ (fun r2 μ1 => ((r2 = (1 : Int32) → wm_OkI 0 188 [.ref 89, .int (10 : Int32)] μ1 (fun r4 μ3 => Q (some (.int r4)) μ3)) ∧ (¬ r2 = (1 : Int32) → wm_Wp 0 304 60 [.null, .null] μ1 Q)))) : wm_Wp 0 304 41 [.ref 89, .null] μ Q := wm_vc mo_304 (rt := some .int) (by decide +kernel) mc_304 86 h
-- WindBoatModel.back()I, the place 60
set_option maxRecDepth 100000 in
set_option maxHeartbeats 8000000 in
theorem w_304_60 (μ : wm_M) (Q : Option Value → wm_M → Prop) (h : Q (some (.int (0 : Int32))) μ) : wm_Wp 0 304 60 [.null, .null] μ Q := wm_vc mo_304 (rt := some .int) (by decide +kernel) mc_304 86 h
-- WindBoatModel.lay(I)I
set_option maxRecDepth 100000 in
set_option maxHeartbeats 8000000 in
theorem v_305 (a1 : Int32) (μ : wm_M) (Q : Option Value → wm_M → Prop) (h : (((0 : Int32) ≤ a1 → wm_Wp 0 305 11 [.ref 89, .int a1, .null] μ Q) ∧ (¬ (0 : Int32) ≤ a1 → wm_OkI 0 185 [.ref 89, .int (-4 : Int32)] μ (fun r2 μ1 => Q (some (.int r2)) μ1)))) : wm_Ok 0 305 [.ref 89, .int a1] μ Q := wm_ent (nL := 3) (l := [.ref 89, .int a1, .null]) (by decide +kernel) (by decide +kernel) (by decide +kernel) rfl rfl (wm_vc mo_305 (rt := some .int) (by decide +kernel) mc_305 86 h)
-- WindBoatModel.lay(I)I, the place 11
set_option maxRecDepth 100000 in
set_option maxHeartbeats 8000000 in
theorem w_305_11 (x1 : Int32) (μ : wm_M) (Q : Option Value → wm_M → Prop) (h : ((x1 ≤ (12 : Int32) → wm_Wp 0 305 24 [.ref 89, .int x1, .null] μ Q) ∧ (¬ x1 ≤ (12 : Int32) → wm_OkI 0 185 [.ref 89, .int (-7 : Int32)] μ (fun r2 μ1 => Q (some (.int r2)) μ1)))) : wm_Wp 0 305 11 [.ref 89, .int x1, .null] μ Q := wm_vc mo_305 (rt := some .int) (by decide +kernel) mc_305 86 h
-- WindBoatModel.lay(I)I, the place 24
set_option maxRecDepth 100000 in
set_option maxHeartbeats 8000000 in
theorem w_305_24 (x1 : Int32) (μ : wm_M) (Q : Option Value → wm_M → Prop) (h : wm_Wp 0 305 26 [.ref 89, .int x1, .int (0 : Int32)] μ Q) : wm_Wp 0 305 24 [.ref 89, .int x1, .null] μ Q := wm_vc mo_305 (rt := some .int) (by decide +kernel) mc_305 86 h
-- WindBoatModel.lay(I)I, the place 26
set_option maxRecDepth 100000 in
set_option maxHeartbeats 8000000 in
theorem w_305_26 (x1 : Int32) (x2 : Int32) (μ : wm_M) (Q : Option Value → wm_M → Prop) (h : (((12 : Int32) ≤ x2 → wm_Wp 0 305 45 [.ref 89, .int x1, .null] μ Q) ∧ (¬ (12 : Int32) ≤ x2 → (vp_in x2 12 ∧ wm_Wp 0 305 26 [.ref 89, .int x1, .int (x2 + (1 : Int32))] (wm_si μ 111 (x2).toNatClampNeg (0 : Int32)) Q)))) : wm_Wp 0 305 26 [.ref 89, .int x1, .int x2] μ Q := wm_vc mo_305 (rt := some .int) (by decide +kernel) mc_305 86 h
-- WindBoatModel.lay(I)I, the place 45
set_option maxRecDepth 100000 in
set_option maxHeartbeats 8000000 in
theorem w_305_45 (x1 : Int32) (μ : wm_M) (Q : Option Value → wm_M → Prop) (h : (((1 : Int32) = 0 ∨ (1 : Int32) = 1) ∧ Q (some (.int x1)) (wm_si (wm_si μ 89 48 x1) 89 49 (1 : Int32)))) : wm_Wp 0 305 45 [.ref 89, .int x1, .null] μ Q := wm_vc mo_305 (rt := some .int) (by decide +kernel) mc_305 86 h
-- WindBoatModel.set(II)I
set_option maxRecDepth 100000 in
set_option maxHeartbeats 8000000 in
theorem v_306 (a1 : Int32) (a2 : Int32) (μ : wm_M) (Q : Option Value → wm_M → Prop) (h : (((μ.1 89 49) = (0 : Int32) → wm_OkI 0 186 [.ref 89, .int (-2 : Int32)] μ (fun r2 μ1 => Q (some (.int r2)) μ1)) ∧ (¬ (μ.1 89 49) = (0 : Int32) → wm_Wp 0 306 14 [.ref 89, .int a1, .int a2, .null] μ Q))) : wm_Ok 0 306 [.ref 89, .int a1, .int a2] μ Q := wm_ent (nL := 4) (l := [.ref 89, .int a1, .int a2, .null]) (by decide +kernel) (by decide +kernel) (by decide +kernel) rfl rfl (wm_vc mo_306 (rt := some .int) (by decide +kernel) mc_306 82 h)
-- WindBoatModel.set(II)I, the place 14
set_option maxRecDepth 100000 in
set_option maxHeartbeats 8000000 in
theorem w_306_14 (x1 : Int32) (x2 : Int32) (μ : wm_M) (Q : Option Value → wm_M → Prop) (h : wm_OkI 0 184 [.int x1, .int (0 : Int32), .int ((μ.1 89 48) - (1 : Int32))] μ (fun r2 μ1 => ((r2 = (0 : Int32) → wm_OkI 0 186 [.ref 89, .int (-3 : Int32)] μ1 (fun r4 μ3 => Q (some (.int r4)) μ3)) ∧ (¬ r2 = (0 : Int32) → wm_Wp 0 306 35 [.ref 89, .int x1, .int x2, .null] μ1 Q)))) : wm_Wp 0 306 14 [.ref 89, .int x1, .int x2, .null] μ Q := wm_vc mo_306 (rt := some .int) (by decide +kernel) mc_306 82 h
-- WindBoatModel.set(II)I, the place 35
set_option maxRecDepth 100000 in
set_option maxHeartbeats 8000000 in
theorem w_306_35 (x1 : Int32) (x2 : Int32) (μ : wm_M) (Q : Option Value → wm_M → Prop) (h : (vp_in x1 12 ∧ (vp_in x1 12 ∧ Q (some (.int (μ.1 111 (x1).toNatClampNeg))) (wm_si μ 111 (x1).toNatClampNeg x2)))) : wm_Wp 0 306 35 [.ref 89, .int x1, .int x2, .null] μ Q := wm_vc mo_306 (rt := some .int) (by decide +kernel) mc_306 82 h
-- WindBoatModel.tear()I
set_option maxRecDepth 100000 in
set_option maxHeartbeats 8000000 in
theorem v_307 (μ : wm_M) (Q : Option Value → wm_M → Prop) (h : (((μ.1 89 49) = (0 : Int32) → wm_Wp 0 307 11 [.ref 89, .null] μ Q) ∧ (¬ (μ.1 89 49) = (0 : Int32) → (((0 : Int32) = 0 ∨ (0 : Int32) = 1) ∧ Q (some (.int (1 : Int32))) (wm_si μ 89 49 (0 : Int32)))))) : wm_Ok 0 307 [.ref 89] μ Q := wm_ent (nL := 2) (l := [.ref 89, .null]) (by decide +kernel) (by decide +kernel) (by decide +kernel) rfl rfl (wm_vc mo_307 (rt := some .int) (by decide +kernel) mc_307 44 h)
-- WindBoatModel.tear()I, the place 11
set_option maxRecDepth 100000 in
set_option maxHeartbeats 8000000 in
theorem w_307_11 (μ : wm_M) (Q : Option Value → wm_M → Prop) (h : (((0 : Int32) = 0 ∨ (0 : Int32) = 1) ∧ Q (some (.int (0 : Int32))) (wm_si μ 89 49 (0 : Int32)))) : wm_Wp 0 307 11 [.ref 89, .null] μ Q := wm_vc mo_307 (rt := some .int) (by decide +kernel) mc_307 44 h
