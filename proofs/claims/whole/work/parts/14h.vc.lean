/-! ===== what each block of code asks (printed by wip/gen/genvc.py) ===== -/
-- WindBoatModel.boatState()I
set_option maxRecDepth 100000 in
set_option maxHeartbeats 8000000 in
theorem v_257 (μ : wm_M) (Q : Option Value → wm_M → Prop) (h : wm_OkI 0 188 [.ref 89, .int (7 : Int32)] μ (fun r2 μ1 => wm_OkI 0 188 [.ref 89, .int (8 : Int32)] μ1 (fun r4 μ3 => wm_OkI 0 188 [.ref 89, .int (9 : Int32)] μ3 (fun r6 μ5 => Q (some (.int (((3 : Int32) * (((8 : Int32) * r2) + r4)) + r6))) μ5)))) : wm_Ok 0 257 [.ref 89] μ Q := wm_ent (nL := 1) (l := [.ref 89]) (by decide +kernel) (by decide +kernel) (by decide +kernel) rfl rfl (wm_vc mo_257 (rt := some .int) (by decide +kernel) mc_257 52 h)
-- WindBoatModel.worksFromBoat(IZ)V
set_option maxRecDepth 100000 in
set_option maxHeartbeats 8000000 in
theorem v_258 (a1 : Int32) (a2 : Int32) (μ : wm_M) (Q : Option Value → wm_M → Prop) (h : wm_OkI 0 188 [.ref 89, .int (10 : Int32)] μ (fun r2 μ1 => wm_OkV 0 246 [.ref 89, .int r2] μ1 (fun μ3 => wm_OkI 0 188 [.ref 89, .int (10 : Int32)] μ3 (fun r5 μ4 => wm_OkV 0 250 [.ref 89, .int a1, .int a2, .int r5] μ4 (fun μ6 => wm_OkI 0 222 [.ref 89] μ6 (fun r8 μ7 => wm_OkI 0 257 [.ref 89] μ7 (fun r10 μ9 => wm_OkI 0 188 [.ref 89, .int (10 : Int32)] μ9 (fun r12 μ11 => wm_OkV 0 252 [.ref 89, .int r8, .int r10, .int r12] μ11 (fun μ13 => Q none μ13))))))))) : wm_Ok 0 258 [.ref 89, .int a1, .int a2] μ Q := wm_ent (nL := 3) (l := [.ref 89, .int a1, .int a2]) (by decide +kernel) (by decide +kernel) (by decide +kernel) rfl rfl (wm_vc mo_258 (rt := none) (by decide +kernel) mc_258 64 h)
-- WindBoatModel.isWindOf(I)Z
set_option maxRecDepth 100000 in
set_option maxHeartbeats 8000000 in
theorem v_259 (a0 : Int32) (μ : wm_M) (Q : Option Value → wm_M → Prop) (h : wm_OkI 0 184 [.int a0, .int (0 : Int32), .int (6 : Int32)] μ (fun r2 μ1 => ((r2 = 0 ∨ r2 = 1) ∧ Q (some (.int r2)) μ1))) : wm_Ok 0 259 [.int a0] μ Q := wm_ent (nL := 1) (l := [.int a0]) (by decide +kernel) (by decide +kernel) (by decide +kernel) rfl rfl (wm_vc mo_259 (rt := some .boolean) (by decide +kernel) mc_259 30 h)
-- WindBoatModel.soonest(III)I
set_option maxRecDepth 100000 in
set_option maxHeartbeats 8000000 in
theorem v_260 (a1 : Int32) (a2 : Int32) (a3 : Int32) (μ : wm_M) (Q : Option Value → wm_M → Prop) (h : wm_OkI 0 188 [.ref 89, .int (6 : Int32)] μ (fun r2 μ1 => ((r2 = (0 : Int32) → wm_OkI 0 185 [.ref 89, .int (-2 : Int32)] μ1 (fun r4 μ3 => Q (some (.int r4)) μ3)) ∧ (¬ r2 = (0 : Int32) → wm_Wp 0 260 16 [.ref 89, .int a1, .int a2, .int a3, .null] μ1 Q)))) : wm_Ok 0 260 [.ref 89, .int a1, .int a2, .int a3] μ Q := wm_ent (nL := 5) (l := [.ref 89, .int a1, .int a2, .int a3, .null]) (by decide +kernel) (by decide +kernel) (by decide +kernel) rfl rfl (wm_vc mo_260 (rt := some .int) (by decide +kernel) mc_260 120 h)
-- WindBoatModel.soonest(III)I, the place 16
set_option maxRecDepth 100000 in
set_option maxHeartbeats 8000000 in
theorem w_260_16 (x1 : Int32) (x2 : Int32) (x3 : Int32) (μ : wm_M) (Q : Option Value → wm_M → Prop) (h : wm_OkI 0 259 [.int x1] μ (fun r2 μ1 => ((r2 = (0 : Int32) → wm_Wp 0 260 30 [.ref 89, .null, .null, .null, .null] μ1 Q) ∧ (¬ r2 = (0 : Int32) → wm_OkI 0 189 [.int x2] μ1 (fun r4 μ3 => ((r4 = (0 : Int32) → wm_Wp 0 260 30 [.ref 89, .null, .null, .null, .null] μ3 Q) ∧ (¬ r4 = (0 : Int32) → wm_Wp 0 260 37 [.ref 89, .int x1, .int x2, .int x3, .null] μ3 Q))))))) : wm_Wp 0 260 16 [.ref 89, .int x1, .int x2, .int x3, .null] μ Q := wm_vc mo_260 (rt := some .int) (by decide +kernel) mc_260 120 h
-- WindBoatModel.soonest(III)I, the place 30
set_option maxRecDepth 100000 in
set_option maxHeartbeats 8000000 in
theorem w_260_30 (μ : wm_M) (Q : Option Value → wm_M → Prop) (h : wm_OkI 0 185 [.ref 89, .int (-3 : Int32)] μ (fun r2 μ1 => Q (some (.int r2)) μ1)) : wm_Wp 0 260 30 [.ref 89, .null, .null, .null, .null] μ Q := wm_vc mo_260 (rt := some .int) (by decide +kernel) mc_260 120 h
-- WindBoatModel.soonest(III)I, the place 37
set_option maxRecDepth 100000 in
set_option maxHeartbeats 8000000 in
theorem w_260_37 (x1 : Int32) (x2 : Int32) (x3 : Int32) (μ : wm_M) (Q : Option Value → wm_M → Prop) (h : wm_OkI 0 184 [.int x3, .int (0 : Int32), .int (1 : Int32)] μ (fun r2 μ1 => ((r2 = (0 : Int32) → wm_OkI 0 185 [.ref 89, .int (-7 : Int32)] μ1 (fun r4 μ3 => Q (some (.int r4)) μ3)) ∧ (¬ r2 = (0 : Int32) → wm_Wp 0 260 53 [.ref 89, .int x1, .int x2, .int x3, .null] μ1 Q)))) : wm_Wp 0 260 37 [.ref 89, .int x1, .int x2, .int x3, .null] μ Q := wm_vc mo_260 (rt := some .int) (by decide +kernel) mc_260 120 h
-- WindBoatModel.soonest(III)I, the place 53
set_option maxRecDepth 100000 in
set_option maxHeartbeats 8000000 in
theorem w_260_53 (x1 : Int32) (x2 : Int32) (x3 : Int32) (μ : wm_M) (Q : Option Value → wm_M → Prop) (h : ((x3 = (1 : Int32) → wm_OkV 0 258 [.ref 89, .int x1, .int (1 : Int32)] μ (fun μ1 => wm_OkI 0 254 [.ref 89, .int x2] μ1 (fun r3 μ2 => ((r3 = (-1 : Int32) → Q (some (.int (-1 : Int32))) μ2) ∧ (¬ r3 = (-1 : Int32) → wm_Wp 0 260 85 [.ref 89, .null, .null, .null, .int r3] μ2 Q))))) ∧ (¬ x3 = (1 : Int32) → wm_OkV 0 258 [.ref 89, .int x1, .int (0 : Int32)] μ (fun μ4 => wm_OkI 0 254 [.ref 89, .int x2] μ4 (fun r6 μ5 => ((r6 = (-1 : Int32) → Q (some (.int (-1 : Int32))) μ5) ∧ (¬ r6 = (-1 : Int32) → wm_Wp 0 260 85 [.ref 89, .null, .null, .null, .int r6] μ5 Q))))))) : wm_Wp 0 260 53 [.ref 89, .int x1, .int x2, .int x3, .null] μ Q := wm_vc mo_260 (rt := some .int) (by decide +kernel) mc_260 120 h
-- WindBoatModel.soonest(III)I, the place 85
set_option maxRecDepth 100000 in
set_option maxHeartbeats 8000000 in
theorem w_260_85 (x4 : Int32) (μ : wm_M) (Q : Option Value → wm_M → Prop) (h : (vp_in x4 864 ∧ Q (some (.int (μ.1 96 (x4).toNatClampNeg))) μ)) : wm_Wp 0 260 85 [.ref 89, .null, .null, .null, .int x4] μ Q := wm_vc mo_260 (rt := some .int) (by decide +kernel) mc_260 120 h
-- WindBoatModel.plan(III)I
set_option maxRecDepth 100000 in
set_option maxHeartbeats 8000000 in
theorem v_261 (a1 : Int32) (a2 : Int32) (a3 : Int32) (μ : wm_M) (Q : Option Value → wm_M → Prop) (h : wm_OkI 0 188 [.ref 89, .int (6 : Int32)] μ (fun r2 μ1 => ((r2 = (0 : Int32) → wm_OkI 0 185 [.ref 89, .int (-2 : Int32)] μ1 (fun r4 μ3 => Q (some (.int r4)) μ3)) ∧ (¬ r2 = (0 : Int32) → wm_Wp 0 261 16 [.ref 89, .int a1, .int a2, .int a3] μ1 Q)))) : wm_Ok 0 261 [.ref 89, .int a1, .int a2, .int a3] μ Q := wm_ent (nL := 4) (l := [.ref 89, .int a1, .int a2, .int a3]) (by decide +kernel) (by decide +kernel) (by decide +kernel) rfl rfl (wm_vc mo_261 (rt := some .int) (by decide +kernel) mc_261 138 h)
-- WindBoatModel.plan(III)I, the place 16
set_option maxRecDepth 100000 in
set_option maxHeartbeats 8000000 in
theorem w_261_16 (x1 : Int32) (x2 : Int32) (x3 : Int32) (μ : wm_M) (Q : Option Value → wm_M → Prop) (h : wm_OkI 0 259 [.int x1] μ (fun r2 μ1 => ((r2 = (0 : Int32) → wm_Wp 0 261 30 [.ref 89, .null, .null, .null] μ1 Q) ∧ (¬ r2 = (0 : Int32) → wm_OkI 0 189 [.int x2] μ1 (fun r4 μ3 => ((r4 = (0 : Int32) → wm_Wp 0 261 30 [.ref 89, .null, .null, .null] μ3 Q) ∧ (¬ r4 = (0 : Int32) → wm_Wp 0 261 37 [.ref 89, .int x1, .int x2, .int x3] μ3 Q))))))) : wm_Wp 0 261 16 [.ref 89, .int x1, .int x2, .int x3] μ Q := wm_vc mo_261 (rt := some .int) (by decide +kernel) mc_261 138 h
-- WindBoatModel.plan(III)I, the place 30
set_option maxRecDepth 100000 in
set_option maxHeartbeats 8000000 in
theorem w_261_30 (μ : wm_M) (Q : Option Value → wm_M → Prop) (h : wm_OkI 0 185 [.ref 89, .int (-3 : Int32)] μ (fun r2 μ1 => Q (some (.int r2)) μ1)) : wm_Wp 0 261 30 [.ref 89, .null, .null, .null] μ Q := wm_vc mo_261 (rt := some .int) (by decide +kernel) mc_261 138 h
-- WindBoatModel.plan(III)I, the place 37
set_option maxRecDepth 100000 in
set_option maxHeartbeats 8000000 in
theorem w_261_37 (x1 : Int32) (x2 : Int32) (x3 : Int32) (μ : wm_M) (Q : Option Value → wm_M → Prop) (h : (((-1 : Int32) ≤ x3 → wm_Wp 0 261 49 [.ref 89, .int x1, .int x2, .int x3] μ Q) ∧ (¬ (-1 : Int32) ≤ x3 → wm_OkI 0 185 [.ref 89, .int (-7 : Int32)] μ (fun r2 μ1 => Q (some (.int r2)) μ1)))) : wm_Wp 0 261 37 [.ref 89, .int x1, .int x2, .int x3] μ Q := wm_vc mo_261 (rt := some .int) (by decide +kernel) mc_261 138 h
-- WindBoatModel.plan(III)I, the place 49
set_option maxRecDepth 100000 in
set_option maxHeartbeats 8000000 in
theorem w_261_49 (x1 : Int32) (x2 : Int32) (x3 : Int32) (μ : wm_M) (Q : Option Value → wm_M → Prop) (h : wm_OkV 0 258 [.ref 89, .int x1, .int (1 : Int32)] μ (fun μ1 => wm_OkI 0 222 [.ref 89] μ1 (fun r3 μ2 => wm_OkI 0 256 [.ref 89, .int r3, .int x2] μ2 (fun r5 μ4 => ((r5 = (0 : Int32) → Q (some (.int (-1 : Int32))) μ4) ∧ (¬ r5 = (0 : Int32) → wm_Wp 0 261 69 [.ref 89, .null, .null, .int x3] μ4 Q)))))) : wm_Wp 0 261 49 [.ref 89, .int x1, .int x2, .int x3] μ Q := wm_vc mo_261 (rt := some .int) (by decide +kernel) mc_261 138 h
-- WindBoatModel.plan(III)I, the place 69
set_option maxRecDepth 100000 in
set_option maxHeartbeats 8000000 in
theorem w_261_69 (x3 : Int32) (μ : wm_M) (Q : Option Value → wm_M → Prop) (h : ((x3 = (-1 : Int32) → Q (some (.int (μ.1 89 27))) μ) ∧ (¬ x3 = (-1 : Int32) → wm_Wp 0 261 81 [.ref 89, .null, .null, .int x3] μ Q))) : wm_Wp 0 261 69 [.ref 89, .null, .null, .int x3] μ Q := wm_vc mo_261 (rt := some .int) (by decide +kernel) mc_261 138 h
-- WindBoatModel.plan(III)I, the place 81
set_option maxRecDepth 100000 in
set_option maxHeartbeats 8000000 in
theorem w_261_81 (x3 : Int32) (μ : wm_M) (Q : Option Value → wm_M → Prop) (h : (((μ.1 89 27) ≤ x3 → wm_Wp 0 261 105 [.null, .null, .null, .null] μ Q) ∧ (¬ (μ.1 89 27) ≤ x3 → (vp_in (((μ.1 89 27) - (1 : Int32)) - x3) 121 ∧ Q (some (.int (μ.1 97 ((((μ.1 89 27) - (1 : Int32)) - x3)).toNatClampNeg))) μ)))) : wm_Wp 0 261 81 [.ref 89, .null, .null, .int x3] μ Q := wm_vc mo_261 (rt := some .int) (by decide +kernel) mc_261 138 h
-- WindBoatModel.plan(III)I, the place 105
set_option maxRecDepth 100000 in
set_option maxHeartbeats 8000000 in
theorem w_261_105 (μ : wm_M) (Q : Option Value → wm_M → Prop) (h : Q (some (.int (-1 : Int32))) μ) : wm_Wp 0 261 105 [.null, .null, .null, .null] μ Q := wm_vc mo_261 (rt := some .int) (by decide +kernel) mc_261 138 h
-- WindBoatModel.isWorld(I)Z
set_option maxRecDepth 100000 in
set_option maxHeartbeats 8000000 in
theorem v_262 (a0 : Int32) (μ : wm_M) (Q : Option Value → wm_M → Prop) (h : wm_OkI 0 184 [.int a0, .int (0 : Int32), .int (5 : Int32)] μ (fun r2 μ1 => ((r2 = 0 ∨ r2 = 1) ∧ Q (some (.int r2)) μ1))) : wm_Ok 0 262 [.int a0] μ Q := wm_ent (nL := 1) (l := [.int a0]) (by decide +kernel) (by decide +kernel) (by decide +kernel) rfl rfl (wm_vc mo_262 (rt := some .boolean) (by decide +kernel) mc_262 30 h)
-- WindBoatModel.telling(II)I
set_option maxRecDepth 100000 in
set_option maxHeartbeats 8000000 in
theorem v_263 (a1 : Int32) (a2 : Int32) (μ : wm_M) (Q : Option Value → wm_M → Prop) (h : wm_OkI 0 184 [.int a1, .int (0 : Int32), .int (120 : Int32)] μ (fun r2 μ1 => ((r2 = (0 : Int32) → wm_Wp 0 263 20 [.ref 89, .null, .null, .null] μ1 Q) ∧ (¬ r2 = (0 : Int32) → wm_OkI 0 184 [.int a2, .int a1, .int (120 : Int32)] μ1 (fun r4 μ3 => ((r4 = (0 : Int32) → wm_Wp 0 263 20 [.ref 89, .null, .null, .null] μ3 Q) ∧ (¬ r4 = (0 : Int32) → wm_Wp 0 263 27 [.ref 89, .int a1, .int a2, .null] μ3 Q))))))) : wm_Ok 0 263 [.ref 89, .int a1, .int a2] μ Q := wm_ent (nL := 4) (l := [.ref 89, .int a1, .int a2, .null]) (by decide +kernel) (by decide +kernel) (by decide +kernel) rfl rfl (wm_vc mo_263 (rt := some .int) (by decide +kernel) mc_263 80 h)
-- WindBoatModel.telling(II)I, the place 20
set_option maxRecDepth 100000 in
set_option maxHeartbeats 8000000 in
theorem w_263_20 (μ : wm_M) (Q : Option Value → wm_M → Prop) (h : wm_OkI 0 185 [.ref 89, .int (-7 : Int32)] μ (fun r2 μ1 => Q (some (.int r2)) μ1)) : wm_Wp 0 263 20 [.ref 89, .null, .null, .null] μ Q := wm_vc mo_263 (rt := some .int) (by decide +kernel) mc_263 80 h
-- WindBoatModel.telling(II)I, the place 27
set_option maxRecDepth 100000 in
set_option maxHeartbeats 8000000 in
theorem w_263_27 (x1 : Int32) (x2 : Int32) (μ : wm_M) (Q : Option Value → wm_M → Prop) (h : wm_OkI 0 188 [.ref 89, .int (3 : Int32)] μ (fun r2 μ1 => (vp_in (2043 : Int32) 2060 ∧ (vp_in (2044 : Int32) 2060 ∧ Q (some (.int r2)) (wm_si (wm_si μ1 91 ((2043 : Int32)).toNatClampNeg x1) 91 ((2044 : Int32)).toNatClampNeg x2))))) : wm_Wp 0 263 27 [.ref 89, .int x1, .int x2, .null] μ Q := wm_vc mo_263 (rt := some .int) (by decide +kernel) mc_263 80 h
-- WindBoatModel.choice(II)I
set_option maxRecDepth 100000 in
set_option maxHeartbeats 8000000 in
theorem v_264 (a1 : Int32) (a2 : Int32) (μ : wm_M) (Q : Option Value → wm_M → Prop) (h : wm_OkI 0 184 [.int a1, .int (0 : Int32), .int (2 : Int32)] μ (fun r2 μ1 => ((r2 = (0 : Int32) → wm_Wp 0 264 16 [.ref 89, .null, .null, .null] μ1 Q) ∧ (¬ r2 = (0 : Int32) → wm_OkI 0 189 [.int a2] μ1 (fun r4 μ3 => ((r4 = (0 : Int32) → wm_Wp 0 264 16 [.ref 89, .null, .null, .null] μ3 Q) ∧ (¬ r4 = (0 : Int32) → wm_Wp 0 264 23 [.ref 89, .int a1, .int a2, .null] μ3 Q))))))) : wm_Ok 0 264 [.ref 89, .int a1, .int a2] μ Q := wm_ent (nL := 4) (l := [.ref 89, .int a1, .int a2, .null]) (by decide +kernel) (by decide +kernel) (by decide +kernel) rfl rfl (wm_vc mo_264 (rt := some .int) (by decide +kernel) mc_264 76 h)
-- WindBoatModel.choice(II)I, the place 16
set_option maxRecDepth 100000 in
set_option maxHeartbeats 8000000 in
theorem w_264_16 (μ : wm_M) (Q : Option Value → wm_M → Prop) (h : wm_OkI 0 185 [.ref 89, .int (-3 : Int32)] μ (fun r2 μ1 => Q (some (.int r2)) μ1)) : wm_Wp 0 264 16 [.ref 89, .null, .null, .null] μ Q := wm_vc mo_264 (rt := some .int) (by decide +kernel) mc_264 76 h
-- WindBoatModel.choice(II)I, the place 23
set_option maxRecDepth 100000 in
set_option maxHeartbeats 8000000 in
theorem w_264_23 (x1 : Int32) (x2 : Int32) (μ : wm_M) (Q : Option Value → wm_M → Prop) (h : (vp_in ((2001 : Int32) + x1) 2060 ∧ (vp_in ((2001 : Int32) + x1) 2060 ∧ Q (some (.int (μ.1 91 (((2001 : Int32) + x1)).toNatClampNeg))) (wm_si μ 91 (((2001 : Int32) + x1)).toNatClampNeg x2)))) : wm_Wp 0 264 23 [.ref 89, .int x1, .int x2, .null] μ Q := wm_vc mo_264 (rt := some .int) (by decide +kernel) mc_264 76 h
-- WindBoatModel.group(II)I
set_option maxRecDepth 100000 in
set_option maxHeartbeats 8000000 in
theorem v_265 (a1 : Int32) (a2 : Int32) (μ : wm_M) (Q : Option Value → wm_M → Prop) (h : wm_OkI 0 262 [.int a1] μ (fun r2 μ1 => ((r2 = (0 : Int32) → wm_OkI 0 185 [.ref 89, .int (-3 : Int32)] μ1 (fun r4 μ3 => Q (some (.int r4)) μ3)) ∧ (¬ r2 = (0 : Int32) → wm_Wp 0 265 14 [.ref 89, .int a1, .int a2, .null] μ1 Q)))) : wm_Ok 0 265 [.ref 89, .int a1, .int a2] μ Q := wm_ent (nL := 4) (l := [.ref 89, .int a1, .int a2, .null]) (by decide +kernel) (by decide +kernel) (by decide +kernel) rfl rfl (wm_vc mo_265 (rt := some .int) (by decide +kernel) mc_265 84 h)
-- WindBoatModel.group(II)I, the place 14
set_option maxRecDepth 100000 in
set_option maxHeartbeats 8000000 in
theorem w_265_14 (x1 : Int32) (x2 : Int32) (μ : wm_M) (Q : Option Value → wm_M → Prop) (h : wm_OkI 0 184 [.int x2, .int (0 : Int32), .int (2 : Int32)] μ (fun r2 μ1 => ((r2 = (0 : Int32) → wm_OkI 0 185 [.ref 89, .int (-7 : Int32)] μ1 (fun r4 μ3 => Q (some (.int r4)) μ3)) ∧ (¬ r2 = (0 : Int32) → wm_Wp 0 265 30 [.ref 89, .int x1, .int x2, .null] μ1 Q)))) : wm_Wp 0 265 14 [.ref 89, .int x1, .int x2, .null] μ Q := wm_vc mo_265 (rt := some .int) (by decide +kernel) mc_265 84 h
-- WindBoatModel.group(II)I, the place 30
set_option maxRecDepth 100000 in
set_option maxHeartbeats 8000000 in
theorem w_265_30 (x1 : Int32) (x2 : Int32) (μ : wm_M) (Q : Option Value → wm_M → Prop) (h : (vp_in ((1995 : Int32) + x1) 2060 ∧ (vp_in ((1995 : Int32) + x1) 2060 ∧ Q (some (.int (μ.1 91 (((1995 : Int32) + x1)).toNatClampNeg))) (wm_si μ 91 (((1995 : Int32) + x1)).toNatClampNeg x2)))) : wm_Wp 0 265 30 [.ref 89, .int x1, .int x2, .null] μ Q := wm_vc mo_265 (rt := some .int) (by decide +kernel) mc_265 84 h
-- WindBoatModel.isTold(I)Z
set_option maxRecDepth 100000 in
set_option maxHeartbeats 8000000 in
theorem v_266 (a1 : Int32) (μ : wm_M) (Q : Option Value → wm_M → Prop) (h : wm_Wp 0 266 4 [.ref 89, .int a1, .int (0 : Int32), .int (0 : Int32)] μ Q) : wm_Ok 0 266 [.ref 89, .int a1] μ Q := wm_ent (nL := 4) (l := [.ref 89, .int a1, .null, .null]) (by decide +kernel) (by decide +kernel) (by decide +kernel) rfl rfl (wm_vc mo_266 (rt := some .boolean) (by decide +kernel) mc_266 78 h)
-- WindBoatModel.isTold(I)Z, the place 4
set_option maxRecDepth 100000 in
set_option maxHeartbeats 8000000 in
theorem w_266_4 (x1 : Int32) (x2 : Int32) (x3 : Int32) (μ : wm_M) (Q : Option Value → wm_M → Prop) (h : (((12 : Int32) ≤ x3 → wm_Wp 0 266 45 [.null, .null, .int x2, .null] μ Q) ∧ (¬ (12 : Int32) ≤ x3 → ((x2 = (0 : Int32) → (vp_in (((240 : Int32) + ((12 : Int32) * x1)) + x3) 2060 ∧ (((μ.1 91 ((((240 : Int32) + ((12 : Int32) * x1)) + x3)).toNatClampNeg) = (1 : Int32) → wm_Wp 0 266 33 [.ref 89, .int x1, .null, .int x3] μ Q) ∧ (¬ (μ.1 91 ((((240 : Int32) + ((12 : Int32) * x1)) + x3)).toNatClampNeg) = (1 : Int32) → wm_Wp 0 266 37 [.ref 89, .int x1, .null, .int x3] μ Q)))) ∧ (¬ x2 = (0 : Int32) → wm_Wp 0 266 33 [.ref 89, .int x1, .null, .int x3] μ Q))))) : wm_Wp 0 266 4 [.ref 89, .int x1, .int x2, .int x3] μ Q := wm_vc mo_266 (rt := some .boolean) (by decide +kernel) mc_266 78 h
-- WindBoatModel.isTold(I)Z, the place 33
set_option maxRecDepth 100000 in
set_option maxHeartbeats 8000000 in
theorem w_266_33 (x1 : Int32) (x3 : Int32) (μ : wm_M) (Q : Option Value → wm_M → Prop) (h : wm_Wp 0 266 4 [.ref 89, .int x1, .int (1 : Int32), .int (x3 + (1 : Int32))] μ Q) : wm_Wp 0 266 33 [.ref 89, .int x1, .null, .int x3] μ Q := wm_vc mo_266 (rt := some .boolean) (by decide +kernel) mc_266 78 h
-- WindBoatModel.isTold(I)Z, the place 37
set_option maxRecDepth 100000 in
set_option maxHeartbeats 8000000 in
theorem w_266_37 (x1 : Int32) (x3 : Int32) (μ : wm_M) (Q : Option Value → wm_M → Prop) (h : wm_Wp 0 266 4 [.ref 89, .int x1, .int (0 : Int32), .int (x3 + (1 : Int32))] μ Q) : wm_Wp 0 266 37 [.ref 89, .int x1, .null, .int x3] μ Q := wm_vc mo_266 (rt := some .boolean) (by decide +kernel) mc_266 78 h
-- WindBoatModel.isTold(I)Z, the place 45
set_option maxRecDepth 100000 in
set_option maxHeartbeats 8000000 in
theorem w_266_45 (x2 : Int32) (μ : wm_M) (Q : Option Value → wm_M → Prop) (h : ((x2 = 0 ∨ x2 = 1) ∧ Q (some (.int x2)) μ)) : wm_Wp 0 266 45 [.null, .null, .int x2, .null] μ Q := wm_vc mo_266 (rt := some .boolean) (by decide +kernel) mc_266 78 h
-- WindBoatModel.worksOut(II)V
set_option maxRecDepth 100000 in
set_option maxHeartbeats 8000000 in
theorem v_267 (a1 : Int32) (a2 : Int32) (μ : wm_M) (Q : Option Value → wm_M → Prop) (h : wm_OkI 0 188 [.ref 89, .int (10 : Int32)] μ (fun r2 μ1 => wm_OkV 0 250 [.ref 89, .int a1, .int (1 : Int32), .int r2] μ1 (fun μ3 => wm_OkI 0 257 [.ref 89] μ3 (fun r5 μ4 => wm_OkI 0 188 [.ref 89, .int (10 : Int32)] μ4 (fun r7 μ6 => wm_OkV 0 252 [.ref 89, .int a2, .int r5, .int r7] μ6 (fun μ8 => wm_OkI 0 188 [.ref 89, .int (5 : Int32)] μ8 (fun r10 μ9 => wm_OkI 0 254 [.ref 89, .int r10] μ9 (fun r12 μ11 => ((r12 = (-1 : Int32) → (vp_in a1 6 ∧ wm_Wp 0 267 63 [.ref 89, .int a1, .int a2, .null, .int (0 : Int32), .null, .null] (wm_si μ11 99 (a1).toNatClampNeg (999 : Int32)) Q)) ∧ (¬ r12 = (-1 : Int32) → (vp_in r12 864 ∧ (vp_in a1 6 ∧ wm_Wp 0 267 63 [.ref 89, .int a1, .int a2, .null, .int (0 : Int32), .null, .null] (wm_si μ11 99 (a1).toNatClampNeg (μ11.1 96 (r12).toNatClampNeg)) Q)))))))))))) : wm_Ok 0 267 [.ref 89, .int a1, .int a2] μ Q := wm_ent (nL := 7) (l := [.ref 89, .int a1, .int a2, .null, .null, .null, .null]) (by decide +kernel) (by decide +kernel) (by decide +kernel) rfl rfl (wm_vc mo_267 (rt := none) (by decide +kernel) mc_267 484 h)
-- WindBoatModel.worksOut(II)V, the place 63
set_option maxRecDepth 100000 in
set_option maxHeartbeats 8000000 in
theorem w_267_63 (x1 : Int32) (x2 : Int32) (x4 : Int32) (μ : wm_M) (Q : Option Value → wm_M → Prop) (h : (((3 : Int32) ≤ x4 → wm_Wp 0 267 131 [.ref 89, .int x1, .int x2, .null, .null, .null, .null] μ Q) ∧ (¬ (3 : Int32) ≤ x4 → (vp_in ((2001 : Int32) + x4) 2060 ∧ wm_OkI 0 254 [.ref 89, .int (μ.1 91 (((2001 : Int32) + x4)).toNatClampNeg)] μ (fun r2 μ1 => (vp_in x4 3 ∧ (vp_in x4 3 ∧ ((((wm_si μ1 100 (x4).toNatClampNeg r2).1 100 (x4).toNatClampNeg) = (-1 : Int32) → (vp_in x4 3 ∧ wm_Wp 0 267 63 [.ref 89, .int x1, .int x2, .null, .int (x4 + (1 : Int32)), .null, .null] (wm_si (wm_si μ1 100 (x4).toNatClampNeg r2) 101 (x4).toNatClampNeg (0 : Int32)) Q)) ∧ (¬ ((wm_si μ1 100 (x4).toNatClampNeg r2).1 100 (x4).toNatClampNeg) = (-1 : Int32) → (vp_in x4 3 ∧ (vp_in ((wm_si μ1 100 (x4).toNatClampNeg r2).1 100 (x4).toNatClampNeg) 864 ∧ (vp_in x4 3 ∧ wm_Wp 0 267 63 [.ref 89, .int x1, .int x2, .null, .int (x4 + (1 : Int32)), .null, .null] (wm_si (wm_si μ1 100 (x4).toNatClampNeg r2) 101 (x4).toNatClampNeg ((wm_si μ1 100 (x4).toNatClampNeg r2).1 96 (((wm_si μ1 100 (x4).toNatClampNeg r2).1 100 (x4).toNatClampNeg)).toNatClampNeg)) Q)))))))))))) : wm_Wp 0 267 63 [.ref 89, .int x1, .int x2, .null, .int x4, .null, .null] μ Q := wm_vc mo_267 (rt := none) (by decide +kernel) mc_267 484 h
-- WindBoatModel.worksOut(II)V, the place 131
set_option maxRecDepth 100000 in
set_option maxHeartbeats 8000000 in
theorem w_267_131 (x1 : Int32) (x2 : Int32) (μ : wm_M) (Q : Option Value → wm_M → Prop) (h : wm_Wp 0 267 134 [.ref 89, .int x1, .int x2, .null, .int (0 : Int32), .null, .null] μ Q) : wm_Wp 0 267 131 [.ref 89, .int x1, .int x2, .null, .null, .null, .null] μ Q := wm_vc mo_267 (rt := none) (by decide +kernel) mc_267 484 h
-- WindBoatModel.worksOut(II)V, the place 134
set_option maxRecDepth 100000 in
set_option maxHeartbeats 8000000 in
theorem w_267_134 (x1 : Int32) (x2 : Int32) (x4 : Int32) (μ : wm_M) (Q : Option Value → wm_M → Prop) (h : (((3 : Int32) ≤ x4 → wm_Wp 0 267 426 [.null, .null, .null, .null, .null, .null, .null] μ Q) ∧ (¬ (3 : Int32) ≤ x4 → wm_Wp 0 267 143 [.ref 89, .int x1, .int x2, .null, .int x4, .int (0 : Int32), .null] μ Q))) : wm_Wp 0 267 134 [.ref 89, .int x1, .int x2, .null, .int x4, .null, .null] μ Q := wm_vc mo_267 (rt := none) (by decide +kernel) mc_267 484 h
-- WindBoatModel.worksOut(II)V, the place 143
set_option maxRecDepth 100000 in
set_option maxHeartbeats 8000000 in
theorem w_267_143 (x1 : Int32) (x2 : Int32) (x4 : Int32) (x5 : Int32) (μ : wm_M) (Q : Option Value → wm_M → Prop) (h : (((3 : Int32) ≤ x5 → wm_Wp 0 267 175 [.ref 89, .int x1, .int x2, .null, .int x4, .null, .null] μ Q) ∧ (¬ (3 : Int32) ≤ x5 → (vp_in ((((9 : Int32) * x1) + ((3 : Int32) * x4)) + x5) 54 ∧ wm_Wp 0 267 143 [.ref 89, .int x1, .int x2, .null, .int x4, .int (x5 + (1 : Int32)), .null] (wm_si μ 98 (((((9 : Int32) * x1) + ((3 : Int32) * x4)) + x5)).toNatClampNeg (999 : Int32)) Q)))) : wm_Wp 0 267 143 [.ref 89, .int x1, .int x2, .null, .int x4, .int x5, .null] μ Q := wm_vc mo_267 (rt := none) (by decide +kernel) mc_267 484 h
-- WindBoatModel.worksOut(II)V, the place 175
set_option maxRecDepth 100000 in
set_option maxHeartbeats 8000000 in
theorem w_267_175 (x1 : Int32) (x2 : Int32) (x4 : Int32) (μ : wm_M) (Q : Option Value → wm_M → Prop) (h : (vp_in x4 3 ∧ (((μ.1 100 (x4).toNatClampNeg) = (-1 : Int32) → wm_Wp 0 267 420 [.ref 89, .int x1, .int x2, .null, .int x4, .null, .null] μ Q) ∧ (¬ (μ.1 100 (x4).toNatClampNeg) = (-1 : Int32) → wm_Wp 0 267 189 [.ref 89, .int x1, .int x2, .null, .int x4, .null, .null] μ Q)))) : wm_Wp 0 267 175 [.ref 89, .int x1, .int x2, .null, .int x4, .null, .null] μ Q := wm_vc mo_267 (rt := none) (by decide +kernel) mc_267 484 h
-- WindBoatModel.worksOut(II)V, the place 189
set_option maxRecDepth 100000 in
set_option maxHeartbeats 8000000 in
theorem w_267_189 (x1 : Int32) (x2 : Int32) (x4 : Int32) (μ : wm_M) (Q : Option Value → wm_M → Prop) (h : (vp_in x4 3 ∧ (vp_in x4 3 ∧ wm_OkI 0 188 [.ref 89, .int (3 : Int32)] μ (fun r2 μ1 => (((μ.1 101 (x4).toNatClampNeg) ≤ r2 → wm_OkI 0 188 [.ref 89, .int (3 : Int32)] μ1 (fun r4 μ3 => wm_OkV 0 252 [.ref 89, .int x2, .int (μ.1 100 (x4).toNatClampNeg), .int r4] μ3 (fun μ5 => wm_Wp 0 267 234 [.ref 89, .int x1, .int x2, .null, .int x4, .int (0 : Int32), .null] μ5 Q))) ∧ (¬ (μ.1 101 (x4).toNatClampNeg) ≤ r2 → (vp_in x4 3 ∧ wm_OkV 0 252 [.ref 89, .int x2, .int (μ.1 100 (x4).toNatClampNeg), .int (μ1.1 101 (x4).toNatClampNeg)] μ1 (fun μ6 => wm_Wp 0 267 234 [.ref 89, .int x1, .int x2, .null, .int x4, .int (0 : Int32), .null] μ6 Q)))))))) : wm_Wp 0 267 189 [.ref 89, .int x1, .int x2, .null, .int x4, .null, .null] μ Q := wm_vc mo_267 (rt := none) (by decide +kernel) mc_267 484 h
-- WindBoatModel.worksOut(II)V, the place 234
set_option maxRecDepth 100000 in
set_option maxHeartbeats 8000000 in
theorem w_267_234 (x1 : Int32) (x2 : Int32) (x4 : Int32) (x5 : Int32) (μ : wm_M) (Q : Option Value → wm_M → Prop) (h : (((3 : Int32) ≤ x5 → wm_Wp 0 267 302 [.ref 89, .int x1, .int x2, .null, .int x4, .null, .null] μ Q) ∧ (¬ (3 : Int32) ≤ x5 → (vp_in ((2001 : Int32) + x5) 2060 ∧ wm_OkI 0 254 [.ref 89, .int (μ.1 91 (((2001 : Int32) + x5)).toNatClampNeg)] μ (fun r2 μ1 => (vp_in x5 3 ∧ (vp_in x5 3 ∧ ((((wm_si μ1 102 (x5).toNatClampNeg r2).1 102 (x5).toNatClampNeg) = (-1 : Int32) → (vp_in x5 3 ∧ wm_Wp 0 267 234 [.ref 89, .int x1, .int x2, .null, .int x4, .int (x5 + (1 : Int32)), .null] (wm_si (wm_si μ1 102 (x5).toNatClampNeg r2) 103 (x5).toNatClampNeg (0 : Int32)) Q)) ∧ (¬ ((wm_si μ1 102 (x5).toNatClampNeg r2).1 102 (x5).toNatClampNeg) = (-1 : Int32) → (vp_in x5 3 ∧ (vp_in ((wm_si μ1 102 (x5).toNatClampNeg r2).1 102 (x5).toNatClampNeg) 864 ∧ (vp_in x5 3 ∧ wm_Wp 0 267 234 [.ref 89, .int x1, .int x2, .null, .int x4, .int (x5 + (1 : Int32)), .null] (wm_si (wm_si μ1 102 (x5).toNatClampNeg r2) 103 (x5).toNatClampNeg ((wm_si μ1 102 (x5).toNatClampNeg r2).1 96 (((wm_si μ1 102 (x5).toNatClampNeg r2).1 102 (x5).toNatClampNeg)).toNatClampNeg)) Q)))))))))))) : wm_Wp 0 267 234 [.ref 89, .int x1, .int x2, .null, .int x4, .int x5, .null] μ Q := wm_vc mo_267 (rt := none) (by decide +kernel) mc_267 484 h
-- WindBoatModel.worksOut(II)V, the place 302
set_option maxRecDepth 100000 in
set_option maxHeartbeats 8000000 in
theorem w_267_302 (x1 : Int32) (x2 : Int32) (x4 : Int32) (μ : wm_M) (Q : Option Value → wm_M → Prop) (h : wm_Wp 0 267 305 [.ref 89, .int x1, .int x2, .null, .int x4, .int (0 : Int32), .null] μ Q) : wm_Wp 0 267 302 [.ref 89, .int x1, .int x2, .null, .int x4, .null, .null] μ Q := wm_vc mo_267 (rt := none) (by decide +kernel) mc_267 484 h
-- WindBoatModel.worksOut(II)V, the place 305
set_option maxRecDepth 100000 in
set_option maxHeartbeats 8000000 in
theorem w_267_305 (x1 : Int32) (x2 : Int32) (x4 : Int32) (x5 : Int32) (μ : wm_M) (Q : Option Value → wm_M → Prop) (h : (((3 : Int32) ≤ x5 → wm_Wp 0 267 420 [.ref 89, .int x1, .int x2, .null, .int x4, .null, .null] μ Q) ∧ (¬ (3 : Int32) ≤ x5 → (vp_in x5 3 ∧ (((μ.1 102 (x5).toNatClampNeg) = (-1 : Int32) → wm_Wp 0 267 414 [.ref 89, .int x1, .int x2, .null, .int x4, .int x5, .null] μ Q) ∧ (¬ (μ.1 102 (x5).toNatClampNeg) = (-1 : Int32) → wm_Wp 0 267 325 [.ref 89, .int x1, .int x2, .null, .int x4, .int x5, .null] μ Q)))))) : wm_Wp 0 267 305 [.ref 89, .int x1, .int x2, .null, .int x4, .int x5, .null] μ Q := wm_vc mo_267 (rt := none) (by decide +kernel) mc_267 484 h
-- WindBoatModel.worksOut(II)V, the place 325
set_option maxRecDepth 100000 in
set_option maxHeartbeats 8000000 in
theorem w_267_325 (x1 : Int32) (x2 : Int32) (x4 : Int32) (x5 : Int32) (μ : wm_M) (Q : Option Value → wm_M → Prop) (h : (vp_in x5 3 ∧ (vp_in x5 3 ∧ wm_OkI 0 188 [.ref 89, .int (4 : Int32)] μ (fun r2 μ1 => (((μ.1 103 (x5).toNatClampNeg) ≤ r2 → wm_OkI 0 188 [.ref 89, .int (4 : Int32)] μ1 (fun r4 μ3 => wm_OkV 0 252 [.ref 89, .int x2, .int (μ.1 102 (x5).toNatClampNeg), .int r4] μ3 (fun μ5 => wm_OkI 0 188 [.ref 89, .int (5 : Int32)] μ5 (fun r7 μ6 => wm_OkI 0 254 [.ref 89, .int r7] μ6 (fun r9 μ8 => ((r9 = (-1 : Int32) → (vp_in ((((9 : Int32) * x1) + ((3 : Int32) * x4)) + x5) 54 ∧ wm_Wp 0 267 414 [.ref 89, .int x1, .int x2, .null, .int x4, .int x5, .null] (wm_si μ8 98 (((((9 : Int32) * x1) + ((3 : Int32) * x4)) + x5)).toNatClampNeg (999 : Int32)) Q)) ∧ (¬ r9 = (-1 : Int32) → (vp_in r9 864 ∧ (vp_in ((((9 : Int32) * x1) + ((3 : Int32) * x4)) + x5) 54 ∧ wm_Wp 0 267 414 [.ref 89, .int x1, .int x2, .null, .int x4, .int x5, .null] (wm_si μ8 98 (((((9 : Int32) * x1) + ((3 : Int32) * x4)) + x5)).toNatClampNeg (μ8.1 96 (r9).toNatClampNeg)) Q))))))))) ∧ (¬ (μ.1 103 (x5).toNatClampNeg) ≤ r2 → (vp_in x5 3 ∧ wm_OkV 0 252 [.ref 89, .int x2, .int (μ.1 102 (x5).toNatClampNeg), .int (μ1.1 103 (x5).toNatClampNeg)] μ1 (fun μ10 => wm_OkI 0 188 [.ref 89, .int (5 : Int32)] μ10 (fun r12 μ11 => wm_OkI 0 254 [.ref 89, .int r12] μ11 (fun r14 μ13 => ((r14 = (-1 : Int32) → (vp_in ((((9 : Int32) * x1) + ((3 : Int32) * x4)) + x5) 54 ∧ wm_Wp 0 267 414 [.ref 89, .int x1, .int x2, .null, .int x4, .int x5, .null] (wm_si μ13 98 (((((9 : Int32) * x1) + ((3 : Int32) * x4)) + x5)).toNatClampNeg (999 : Int32)) Q)) ∧ (¬ r14 = (-1 : Int32) → (vp_in r14 864 ∧ (vp_in ((((9 : Int32) * x1) + ((3 : Int32) * x4)) + x5) 54 ∧ wm_Wp 0 267 414 [.ref 89, .int x1, .int x2, .null, .int x4, .int x5, .null] (wm_si μ13 98 (((((9 : Int32) * x1) + ((3 : Int32) * x4)) + x5)).toNatClampNeg (μ13.1 96 (r14).toNatClampNeg)) Q)))))))))))))) : wm_Wp 0 267 325 [.ref 89, .int x1, .int x2, .null, .int x4, .int x5, .null] μ Q := wm_vc mo_267 (rt := none) (by decide +kernel) mc_267 484 h
-- WindBoatModel.worksOut(II)V, the place 414
set_option maxRecDepth 100000 in
set_option maxHeartbeats 8000000 in
theorem w_267_414 (x1 : Int32) (x2 : Int32) (x4 : Int32) (x5 : Int32) (μ : wm_M) (Q : Option Value → wm_M → Prop) (h : wm_Wp 0 267 305 [.ref 89, .int x1, .int x2, .null, .int x4, .int (x5 + (1 : Int32)), .null] μ Q) : wm_Wp 0 267 414 [.ref 89, .int x1, .int x2, .null, .int x4, .int x5, .null] μ Q := wm_vc mo_267 (rt := none) (by decide +kernel) mc_267 484 h
-- WindBoatModel.worksOut(II)V, the place 420
set_option maxRecDepth 100000 in
set_option maxHeartbeats 8000000 in
theorem w_267_420 (x1 : Int32) (x2 : Int32) (x4 : Int32) (μ : wm_M) (Q : Option Value → wm_M → Prop) (h : wm_Wp 0 267 134 [.ref 89, .int x1, .int x2, .null, .int (x4 + (1 : Int32)), .null, .null] μ Q) : wm_Wp 0 267 420 [.ref 89, .int x1, .int x2, .null, .int x4, .null, .null] μ Q := wm_vc mo_267 (rt := none) (by decide +kernel) mc_267 484 h
-- WindBoatModel.worksOut(II)V, the place 426
set_option maxRecDepth 100000 in
set_option maxHeartbeats 8000000 in
theorem w_267_426 (μ : wm_M) (Q : Option Value → wm_M → Prop) (h : Q none μ) : wm_Wp 0 267 426 [.null, .null, .null, .null, .null, .null, .null] μ Q := wm_vc mo_267 (rt := none) (by decide +kernel) mc_267 484 h
-- WindBoatModel.worksAll()V
set_option maxRecDepth 100000 in
set_option maxHeartbeats 8000000 in
theorem v_268 (μ : wm_M) (Q : Option Value → wm_M → Prop) (h : wm_OkI 0 188 [.ref 89, .int (10 : Int32)] μ (fun r2 μ1 => wm_OkV 0 246 [.ref 89, .int r2] μ1 (fun μ3 => wm_OkI 0 222 [.ref 89] μ3 (fun r5 μ4 => wm_Wp 0 268 17 [.ref 89, .int r5, .int (0 : Int32)] μ4 Q)))) : wm_Ok 0 268 [.ref 89] μ Q := wm_ent (nL := 3) (l := [.ref 89, .null, .null]) (by decide +kernel) (by decide +kernel) (by decide +kernel) rfl rfl (wm_vc mo_268 (rt := none) (by decide +kernel) mc_268 68 h)
-- WindBoatModel.worksAll()V, the place 17
set_option maxRecDepth 100000 in
set_option maxHeartbeats 8000000 in
theorem w_268_17 (x1 : Int32) (x2 : Int32) (μ : wm_M) (Q : Option Value → wm_M → Prop) (h : (((6 : Int32) ≤ x2 → wm_Wp 0 268 43 [.null, .null, .null] μ Q) ∧ (¬ (6 : Int32) ≤ x2 → wm_OkI 0 266 [.ref 89, .int x2] μ (fun r2 μ1 => ((r2 = (0 : Int32) → wm_Wp 0 268 37 [.ref 89, .int x1, .int x2] μ1 Q) ∧ (¬ r2 = (0 : Int32) → wm_OkV 0 267 [.ref 89, .int x2, .int x1] μ1 (fun μ3 => wm_Wp 0 268 37 [.ref 89, .int x1, .int x2] μ3 Q))))))) : wm_Wp 0 268 17 [.ref 89, .int x1, .int x2] μ Q := wm_vc mo_268 (rt := none) (by decide +kernel) mc_268 68 h
-- WindBoatModel.worksAll()V, the place 37
set_option maxRecDepth 100000 in
set_option maxHeartbeats 8000000 in
theorem w_268_37 (x1 : Int32) (x2 : Int32) (μ : wm_M) (Q : Option Value → wm_M → Prop) (h : wm_Wp 0 268 17 [.ref 89, .int x1, .int (x2 + (1 : Int32))] μ Q) : wm_Wp 0 268 37 [.ref 89, .int x1, .int x2] μ Q := wm_vc mo_268 (rt := none) (by decide +kernel) mc_268 68 h
-- WindBoatModel.worksAll()V, the place 43
set_option maxRecDepth 100000 in
set_option maxHeartbeats 8000000 in
theorem w_268_43 (μ : wm_M) (Q : Option Value → wm_M → Prop) (h : Q none μ) : wm_Wp 0 268 43 [.null, .null, .null] μ Q := wm_vc mo_268 (rt := none) (by decide +kernel) mc_268 68 h
-- WindBoatModel.comes(II)I
set_option maxRecDepth 100000 in
set_option maxHeartbeats 8000000 in
theorem v_269 (a1 : Int32) (a2 : Int32) (μ : wm_M) (Q : Option Value → wm_M → Prop) (h : wm_OkI 0 188 [.ref 89, .int (6 : Int32)] μ (fun r2 μ1 => ((r2 = (0 : Int32) → wm_OkI 0 185 [.ref 89, .int (-2 : Int32)] μ1 (fun r4 μ3 => Q (some (.int r4)) μ3)) ∧ (¬ r2 = (0 : Int32) → wm_Wp 0 269 16 [.ref 89, .int a1, .int a2] μ1 Q)))) : wm_Ok 0 269 [.ref 89, .int a1, .int a2] μ Q := wm_ent (nL := 3) (l := [.ref 89, .int a1, .int a2]) (by decide +kernel) (by decide +kernel) (by decide +kernel) rfl rfl (wm_vc mo_269 (rt := some .int) (by decide +kernel) mc_269 128 h)
-- WindBoatModel.comes(II)I, the place 16
set_option maxRecDepth 100000 in
set_option maxHeartbeats 8000000 in
theorem w_269_16 (x1 : Int32) (x2 : Int32) (μ : wm_M) (Q : Option Value → wm_M → Prop) (h : ((x1 < (0 : Int32) → wm_Wp 0 269 43 [.ref 89, .null, .null] μ Q) ∧ (¬ x1 < (0 : Int32) → (¬ (10 : Int32) = 0 ∧ (((2 : Int32) < (x1 / (10 : Int32)) → wm_Wp 0 269 43 [.ref 89, .null, .null] μ Q) ∧ (¬ (2 : Int32) < (x1 / (10 : Int32)) → (¬ (10 : Int32) = 0 ∧ (((2 : Int32) < (x1 - x1 / (10 : Int32) * (10 : Int32)) → wm_Wp 0 269 43 [.ref 89, .null, .null] μ Q) ∧ (¬ (2 : Int32) < (x1 - x1 / (10 : Int32) * (10 : Int32)) → wm_OkI 0 262 [.int x2] μ (fun r2 μ1 => ((r2 = (0 : Int32) → wm_Wp 0 269 43 [.ref 89, .null, .null] μ1 Q) ∧ (¬ r2 = (0 : Int32) → wm_Wp 0 269 50 [.ref 89, .int x1, .int x2] μ1 Q)))))))))))) : wm_Wp 0 269 16 [.ref 89, .int x1, .int x2] μ Q := wm_vc mo_269 (rt := some .int) (by decide +kernel) mc_269 128 h
-- WindBoatModel.comes(II)I, the place 43
set_option maxRecDepth 100000 in
set_option maxHeartbeats 8000000 in
theorem w_269_43 (μ : wm_M) (Q : Option Value → wm_M → Prop) (h : wm_OkI 0 185 [.ref 89, .int (-3 : Int32)] μ (fun r2 μ1 => Q (some (.int r2)) μ1)) : wm_Wp 0 269 43 [.ref 89, .null, .null] μ Q := wm_vc mo_269 (rt := some .int) (by decide +kernel) mc_269 128 h
-- WindBoatModel.comes(II)I, the place 50
set_option maxRecDepth 100000 in
set_option maxHeartbeats 8000000 in
theorem w_269_50 (x1 : Int32) (x2 : Int32) (μ : wm_M) (Q : Option Value → wm_M → Prop) (h : wm_OkI 0 188 [.ref 89, .int (10 : Int32)] μ (fun r2 μ1 => wm_OkV 0 246 [.ref 89, .int r2] μ1 (fun μ3 => wm_OkI 0 222 [.ref 89] μ3 (fun r5 μ4 => wm_OkV 0 267 [.ref 89, .int x2, .int r5] μ4 (fun μ6 => (¬ (10 : Int32) = 0 ∧ (¬ (10 : Int32) = 0 ∧ (vp_in ((((9 : Int32) * x2) + ((3 : Int32) * (x1 / (10 : Int32)))) + (x1 - x1 / (10 : Int32) * (10 : Int32))) 54 ∧ Q (some (.int (μ6.1 98 (((((9 : Int32) * x2) + ((3 : Int32) * (x1 / (10 : Int32)))) + (x1 - x1 / (10 : Int32) * (10 : Int32)))).toNatClampNeg))) μ6)))))))) : wm_Wp 0 269 50 [.ref 89, .int x1, .int x2] μ Q := wm_vc mo_269 (rt := some .int) (by decide +kernel) mc_269 128 h
-- WindBoatModel.sides(II)I
set_option maxRecDepth 100000 in
set_option maxHeartbeats 8000000 in
theorem v_270 (a0 : Int32) (a1 : Int32) (μ : wm_M) (Q : Option Value → wm_M → Prop) (h : wm_OkI 0 248 [.int a0, .int a1] μ (fun r2 μ1 => Q (some (.int r2)) μ1)) : wm_Ok 0 270 [.int a0, .int a1] μ Q := wm_ent (nL := 2) (l := [.int a0, .int a1]) (by decide +kernel) (by decide +kernel) (by decide +kernel) rfl rfl (wm_vc mo_270 (rt := some .int) (by decide +kernel) mc_270 28 h)
-- WindBoatModel.weightOf(I)I
set_option maxRecDepth 100000 in
set_option maxHeartbeats 8000000 in
theorem v_271 (a1 : Int32) (μ : wm_M) (Q : Option Value → wm_M → Prop) (h : (¬ (2 : Int32) = 0 ∧ wm_Wp 0 271 8 [.ref 89, .int a1, .int (1 : Int32), .int ((a1 / (2 : Int32)) * (2 : Int32)), .null, .null, .null, .null] μ Q)) : wm_Ok 0 271 [.ref 89, .int a1] μ Q := wm_ent (nL := 8) (l := [.ref 89, .int a1, .null, .null, .null, .null, .null, .null]) (by decide +kernel) (by decide +kernel) (by decide +kernel) rfl rfl (wm_vc mo_271 (rt := some .int) (by decide +kernel) mc_271 208 h)
-- WindBoatModel.weightOf(I)I, the place 8
set_option maxRecDepth 100000 in
set_option maxHeartbeats 8000000 in
theorem w_271_8 (x1 : Int32) (x2 : Int32) (x3 : Int32) (μ : wm_M) (Q : Option Value → wm_M → Prop) (h : (¬ (2 : Int32) = 0 ∧ (((((x1 / (2 : Int32)) * (2 : Int32)) + (2 : Int32)) ≤ x3 → wm_Wp 0 271 161 [.null, .null, .int x2, .null, .null, .null, .null, .null] μ Q) ∧ (¬ (((x1 / (2 : Int32)) * (2 : Int32)) + (2 : Int32)) ≤ x3 → wm_Wp 0 271 22 [.ref 89, .int x1, .int x2, .int x3, .int (0 : Int32), .null, .null, .null] μ Q)))) : wm_Wp 0 271 8 [.ref 89, .int x1, .int x2, .int x3, .null, .null, .null, .null] μ Q := wm_vc mo_271 (rt := some .int) (by decide +kernel) mc_271 208 h
-- WindBoatModel.weightOf(I)I, the place 22
set_option maxRecDepth 100000 in
set_option maxHeartbeats 8000000 in
theorem w_271_22 (x1 : Int32) (x2 : Int32) (x3 : Int32) (x4 : Int32) (μ : wm_M) (Q : Option Value → wm_M → Prop) (h : (((12 : Int32) ≤ x4 → wm_Wp 0 271 155 [.ref 89, .int x1, .int x2, .int x3, .null, .null, .null, .null] μ Q) ∧ (¬ (12 : Int32) ≤ x4 → (vp_in ((240 : Int32) + (((12 : Int32) * x3) + x4)) 2060 ∧ (((μ.1 91 (((240 : Int32) + (((12 : Int32) * x3) + x4))).toNatClampNeg) = (0 : Int32) → wm_Wp 0 271 149 [.ref 89, .int x1, .int x2, .int x3, .int x4, .null, .null, .null] μ Q) ∧ (¬ (μ.1 91 (((240 : Int32) + (((12 : Int32) * x3) + x4))).toNatClampNeg) = (0 : Int32) → (vp_in ((240 : Int32) + ((72 : Int32) + x4)) 2060 ∧ (((μ.1 91 (((240 : Int32) + ((72 : Int32) + x4))).toNatClampNeg) = (0 : Int32) → wm_Wp 0 271 149 [.ref 89, .int x1, .int x2, .int x3, .int x4, .null, .null, .null] μ Q) ∧ (¬ (μ.1 91 (((240 : Int32) + ((72 : Int32) + x4))).toNatClampNeg) = (0 : Int32) → wm_Wp 0 271 76 [.ref 89, .int x1, .int x2, .int x3, .int x4, .int (((12 : Int32) * x3) + x4), .int ((72 : Int32) + x4), .null] μ Q))))))))) : wm_Wp 0 271 22 [.ref 89, .int x1, .int x2, .int x3, .int x4, .null, .null, .null] μ Q := wm_vc mo_271 (rt := some .int) (by decide +kernel) mc_271 208 h
-- WindBoatModel.weightOf(I)I, the place 76
set_option maxRecDepth 100000 in
set_option maxHeartbeats 8000000 in
theorem w_271_76 (x1 : Int32) (x2 : Int32) (x3 : Int32) (x4 : Int32) (x5 : Int32) (x6 : Int32) (μ : wm_M) (Q : Option Value → wm_M → Prop) (h : (vp_in ((156 : Int32) + x5) 2060 ∧ (vp_in ((156 : Int32) + x6) 2060 ∧ (vp_in ((72 : Int32) + x5) 2060 ∧ (vp_in ((72 : Int32) + x6) 2060 ∧ wm_OkI 0 270 [.int (μ.1 91 (((72 : Int32) + x5)).toNatClampNeg), .int (μ.1 91 (((72 : Int32) + x6)).toNatClampNeg)] μ (fun r2 μ1 => (((1 : Int32) < r2 → wm_Wp 0 271 149 [.ref 89, .int x1, .int (x2 + (0 : Int32)), .int x3, .int x4, .null, .null, .null] μ1 Q) ∧ (¬ (1 : Int32) < r2 → (((4 : Int32) < ((μ.1 91 (((156 : Int32) + x5)).toNatClampNeg) - (μ.1 91 (((156 : Int32) + x6)).toNatClampNeg)) → wm_Wp 0 271 149 [.ref 89, .int x1, .int (x2 + (0 : Int32)), .int x3, .int x4, .null, .null, .null] μ1 Q) ∧ (¬ (4 : Int32) < ((μ.1 91 (((156 : Int32) + x5)).toNatClampNeg) - (μ.1 91 (((156 : Int32) + x6)).toNatClampNeg)) → ((((μ.1 91 (((156 : Int32) + x5)).toNatClampNeg) - (μ.1 91 (((156 : Int32) + x6)).toNatClampNeg)) < (-4 : Int32) → wm_Wp 0 271 149 [.ref 89, .int x1, .int (x2 + (0 : Int32)), .int x3, .int x4, .null, .null, .null] μ1 Q) ∧ (¬ ((μ.1 91 (((156 : Int32) + x5)).toNatClampNeg) - (μ.1 91 (((156 : Int32) + x6)).toNatClampNeg)) < (-4 : Int32) → wm_Wp 0 271 149 [.ref 89, .int x1, .int (x2 + (1 : Int32)), .int x3, .int x4, .null, .null, .null] μ1 Q)))))))))))) : wm_Wp 0 271 76 [.ref 89, .int x1, .int x2, .int x3, .int x4, .int x5, .int x6, .null] μ Q := wm_vc mo_271 (rt := some .int) (by decide +kernel) mc_271 208 h
-- WindBoatModel.weightOf(I)I, the place 149
set_option maxRecDepth 100000 in
set_option maxHeartbeats 8000000 in
theorem w_271_149 (x1 : Int32) (x2 : Int32) (x3 : Int32) (x4 : Int32) (μ : wm_M) (Q : Option Value → wm_M → Prop) (h : wm_Wp 0 271 22 [.ref 89, .int x1, .int x2, .int x3, .int (x4 + (1 : Int32)), .null, .null, .null] μ Q) : wm_Wp 0 271 149 [.ref 89, .int x1, .int x2, .int x3, .int x4, .null, .null, .null] μ Q := wm_vc mo_271 (rt := some .int) (by decide +kernel) mc_271 208 h
-- WindBoatModel.weightOf(I)I, the place 155
set_option maxRecDepth 100000 in
set_option maxHeartbeats 8000000 in
theorem w_271_155 (x1 : Int32) (x2 : Int32) (x3 : Int32) (μ : wm_M) (Q : Option Value → wm_M → Prop) (h : wm_Wp 0 271 8 [.ref 89, .int x1, .int x2, .int (x3 + (1 : Int32)), .null, .null, .null, .null] μ Q) : wm_Wp 0 271 155 [.ref 89, .int x1, .int x2, .int x3, .null, .null, .null, .null] μ Q := wm_vc mo_271 (rt := some .int) (by decide +kernel) mc_271 208 h
-- WindBoatModel.weightOf(I)I, the place 161
set_option maxRecDepth 100000 in
set_option maxHeartbeats 8000000 in
theorem w_271_161 (x2 : Int32) (μ : wm_M) (Q : Option Value → wm_M → Prop) (h : Q (some (.int x2)) μ) : wm_Wp 0 271 161 [.null, .null, .int x2, .null, .null, .null, .null, .null] μ Q := wm_vc mo_271 (rt := some .int) (by decide +kernel) mc_271 208 h
-- WindBoatModel.weight(I)I
set_option maxRecDepth 100000 in
set_option maxHeartbeats 8000000 in
theorem v_272 (a1 : Int32) (μ : wm_M) (Q : Option Value → wm_M → Prop) (h : wm_OkI 0 262 [.int a1] μ (fun r2 μ1 => ((r2 = (0 : Int32) → wm_Wp 0 272 15 [.ref 89, .null] μ1 Q) ∧ (¬ r2 = (0 : Int32) → wm_OkI 0 271 [.ref 89, .int a1] μ1 (fun r4 μ3 => Q (some (.int r4)) μ3))))) : wm_Ok 0 272 [.ref 89, .int a1] μ Q := wm_ent (nL := 2) (l := [.ref 89, .int a1]) (by decide +kernel) (by decide +kernel) (by decide +kernel) rfl rfl (wm_vc mo_272 (rt := some .int) (by decide +kernel) mc_272 42 h)
-- WindBoatModel.weight(I)I, the place 15
set_option maxRecDepth 100000 in
set_option maxHeartbeats 8000000 in
theorem w_272_15 (μ : wm_M) (Q : Option Value → wm_M → Prop) (h : wm_OkI 0 185 [.ref 89, .int (-3 : Int32)] μ (fun r2 μ1 => Q (some (.int r2)) μ1)) : wm_Wp 0 272 15 [.ref 89, .null] μ Q := wm_vc mo_272 (rt := some .int) (by decide +kernel) mc_272 42 h
-- WindBoatModel.groupOf(I)I
set_option maxRecDepth 100000 in
set_option maxHeartbeats 8000000 in
theorem v_273 (a1 : Int32) (μ : wm_M) (Q : Option Value → wm_M → Prop) (h : (((μ.1 89 37) = (0 : Int32) → wm_Wp 0 273 11 [.ref 89, .int a1] μ Q) ∧ (¬ (μ.1 89 37) = (0 : Int32) → Q (some (.int (0 : Int32))) μ))) : wm_Ok 0 273 [.ref 89, .int a1] μ Q := wm_ent (nL := 2) (l := [.ref 89, .int a1]) (by decide +kernel) (by decide +kernel) (by decide +kernel) rfl rfl (wm_vc mo_273 (rt := some .int) (by decide +kernel) mc_273 44 h)
-- WindBoatModel.groupOf(I)I, the place 11
set_option maxRecDepth 100000 in
set_option maxHeartbeats 8000000 in
theorem w_273_11 (x1 : Int32) (μ : wm_M) (Q : Option Value → wm_M → Prop) (h : (vp_in ((1995 : Int32) + x1) 2060 ∧ Q (some (.int (μ.1 91 (((1995 : Int32) + x1)).toNatClampNeg))) μ)) : wm_Wp 0 273 11 [.ref 89, .int x1] μ Q := wm_vc mo_273 (rt := some .int) (by decide +kernel) mc_273 44 h
-- WindBoatModel.aimOf(IIII)J
set_option maxRecDepth 100000 in
set_option maxHeartbeats 8000000 in
theorem v_274 (a1 : Int32) (a2 : Int32) (a3 : Int32) (a4 : Int32) (μ : wm_M) (Q : Option Value → wm_M → Prop) (h : wm_Wp 0 274 9 [.ref 89, .int a1, .int a2, .int a3, .int a4, .long (0 : Int64), .null, .int (0 : Int32), .int (0 : Int32), .null, .null, .null] μ Q) : wm_Ok 0 274 [.ref 89, .int a1, .int a2, .int a3, .int a4] μ Q := wm_ent (nL := 12) (l := [.ref 89, .int a1, .int a2, .int a3, .int a4, .null, .null, .null, .null, .null, .null, .null]) (by decide +kernel) (by decide +kernel) (by decide +kernel) rfl rfl (wm_vc mo_274 (rt := some .long) (by decide +kernel) mc_274 198 h)
-- WindBoatModel.aimOf(IIII)J, the place 9
set_option maxRecDepth 100000 in
set_option maxHeartbeats 8000000 in
theorem w_274_9 (x1 : Int32) (x2 : Int32) (x3 : Int32) (x4 : Int32) (x5 : Int64) (x7 : Int32) (x8 : Int32) (μ : wm_M) (Q : Option Value → wm_M → Prop) (h : (((6 : Int32) ≤ x8 → wm_Wp 0 274 160 [.null, .null, .null, .null, .null, .long x5, .null, .null, .null, .null, .null, .null] μ Q) ∧ (¬ (6 : Int32) ≤ x8 → wm_OkI 0 266 [.ref 89, .int x8] μ (fun r2 μ1 => ((r2 = (0 : Int32) → wm_Wp 0 274 154 [.ref 89, .int x1, .int x2, .int x3, .int x4, .long x5, .null, .int x7, .int x8, .null, .null, .null] μ1 Q) ∧ (¬ r2 = (0 : Int32) → ((x3 = (-1 : Int32) → wm_Wp 0 274 43 [.ref 89, .int x1, .int x2, .int x3, .int x4, .long x5, .null, .int x7, .int x8, .null, .null, .null] μ1 Q) ∧ (¬ x3 = (-1 : Int32) → wm_OkI 0 273 [.ref 89, .int x8] μ1 (fun r4 μ3 => ((r4 = x3 → wm_Wp 0 274 43 [.ref 89, .int x1, .int x2, .int x3, .int x4, .long x5, .null, .int x7, .int x8, .null, .null, .null] μ3 Q) ∧ (¬ r4 = x3 → wm_Wp 0 274 154 [.ref 89, .int x1, .int x2, .int x3, .int x4, .long x5, .null, .int x7, .int x8, .null, .null, .null] μ3 Q))))))))))) : wm_Wp 0 274 9 [.ref 89, .int x1, .int x2, .int x3, .int x4, .long x5, .null, .int x7, .int x8, .null, .null, .null] μ Q := wm_vc mo_274 (rt := some .long) (by decide +kernel) mc_274 198 h
-- WindBoatModel.aimOf(IIII)J, the place 43
set_option maxRecDepth 100000 in
set_option maxHeartbeats 8000000 in
theorem w_274_43 (x1 : Int32) (x2 : Int32) (x3 : Int32) (x4 : Int32) (x5 : Int64) (x7 : Int32) (x8 : Int32) (μ : wm_M) (Q : Option Value → wm_M → Prop) (h : ((x3 = (-1 : Int32) → wm_OkI 0 273 [.ref 89, .int x8] μ (fun r2 μ1 => (vp_in r2 3 ∧ (vp_in ((((9 : Int32) * x8) + ((3 : Int32) * x2)) + (μ1.1 105 (r2).toNatClampNeg)) 54 ∧ ((x1 = (0 : Int32) → (vp_in x8 6 ∧ wm_Wp 0 274 151 [.ref 89, .int x1, .int x2, .int x3, .int x4, .long (x5 + (((μ1.1 104 (x8).toNatClampNeg)).toInt64 * ((μ1.1 98 (((((9 : Int32) * x8) + ((3 : Int32) * x2)) + (μ1.1 105 (r2).toNatClampNeg))).toNatClampNeg)).toInt64)), .null, .null, .int x8, .null, .null, .null] μ1 Q)) ∧ (¬ x1 = (0 : Int32) → wm_Wp 0 274 105 [.ref 89, .int x1, .int x2, .int x3, .int x4, .long x5, .null, .int x7, .int x8, .int (μ1.1 98 (((((9 : Int32) * x8) + ((3 : Int32) * x2)) + (μ1.1 105 (r2).toNatClampNeg))).toNatClampNeg), .null, .null] μ1 Q)))))) ∧ (¬ x3 = (-1 : Int32) → (vp_in ((((9 : Int32) * x8) + ((3 : Int32) * x2)) + x4) 54 ∧ ((x1 = (0 : Int32) → (vp_in x8 6 ∧ wm_Wp 0 274 151 [.ref 89, .int x1, .int x2, .int x3, .int x4, .long (x5 + (((μ.1 104 (x8).toNatClampNeg)).toInt64 * ((μ.1 98 (((((9 : Int32) * x8) + ((3 : Int32) * x2)) + x4)).toNatClampNeg)).toInt64)), .null, .null, .int x8, .null, .null, .null] μ Q)) ∧ (¬ x1 = (0 : Int32) → wm_Wp 0 274 105 [.ref 89, .int x1, .int x2, .int x3, .int x4, .long x5, .null, .int x7, .int x8, .int (μ.1 98 (((((9 : Int32) * x8) + ((3 : Int32) * x2)) + x4)).toNatClampNeg), .null, .null] μ Q)))))) : wm_Wp 0 274 43 [.ref 89, .int x1, .int x2, .int x3, .int x4, .long x5, .null, .int x7, .int x8, .null, .null, .null] μ Q := wm_vc mo_274 (rt := some .long) (by decide +kernel) mc_274 198 h
-- WindBoatModel.aimOf(IIII)J, the place 105
set_option maxRecDepth 100000 in
set_option maxHeartbeats 8000000 in
theorem w_274_105 (x1 : Int32) (x2 : Int32) (x3 : Int32) (x4 : Int32) (x5 : Int64) (x7 : Int32) (x8 : Int32) (x9 : Int32) (μ : wm_M) (Q : Option Value → wm_M → Prop) (h : ((x1 = (1 : Int32) → ((x7 = (0 : Int32) → wm_Wp 0 274 142 [.ref 89, .int x1, .int x2, .int x3, .int x4, .null, .null, .null, .int x8, .null, .long (x9).toInt64, .null] μ Q) ∧ (¬ x7 = (0 : Int32) → (((lg_cmp (x9).toInt64 x5) ≤ (0 : Int32) → wm_Wp 0 274 147 [.ref 89, .int x1, .int x2, .int x3, .int x4, .long x5, .null, .null, .int x8, .null, .null, .null] μ Q) ∧ (¬ (lg_cmp (x9).toInt64 x5) ≤ (0 : Int32) → wm_Wp 0 274 142 [.ref 89, .int x1, .int x2, .int x3, .int x4, .null, .null, .null, .int x8, .null, .long (x9).toInt64, .null] μ Q))))) ∧ (¬ x1 = (1 : Int32) → wm_Wp 0 274 116 [.ref 89, .int x1, .int x2, .int x3, .int x4, .long x5, .null, .int x7, .int x8, .int x9, .null, .null] μ Q))) : wm_Wp 0 274 105 [.ref 89, .int x1, .int x2, .int x3, .int x4, .long x5, .null, .int x7, .int x8, .int x9, .null, .null] μ Q := wm_vc mo_274 (rt := some .long) (by decide +kernel) mc_274 198 h
-- WindBoatModel.aimOf(IIII)J, the place 116
set_option maxRecDepth 100000 in
set_option maxHeartbeats 8000000 in
theorem w_274_116 (x1 : Int32) (x2 : Int32) (x3 : Int32) (x4 : Int32) (x5 : Int64) (x7 : Int32) (x8 : Int32) (x9 : Int32) (μ : wm_M) (Q : Option Value → wm_M → Prop) (h : (vp_in x8 6 ∧ ((x7 = (0 : Int32) → wm_Wp 0 274 142 [.ref 89, .int x1, .int x2, .int x3, .int x4, .null, .null, .null, .int x8, .null, .long ((x9 - (μ.1 99 (x8).toNatClampNeg))).toInt64, .null] μ Q) ∧ (¬ x7 = (0 : Int32) → (((lg_cmp ((x9 - (μ.1 99 (x8).toNatClampNeg))).toInt64 x5) ≤ (0 : Int32) → wm_Wp 0 274 147 [.ref 89, .int x1, .int x2, .int x3, .int x4, .long x5, .null, .null, .int x8, .null, .null, .null] μ Q) ∧ (¬ (lg_cmp ((x9 - (μ.1 99 (x8).toNatClampNeg))).toInt64 x5) ≤ (0 : Int32) → wm_Wp 0 274 142 [.ref 89, .int x1, .int x2, .int x3, .int x4, .null, .null, .null, .int x8, .null, .long ((x9 - (μ.1 99 (x8).toNatClampNeg))).toInt64, .null] μ Q)))))) : wm_Wp 0 274 116 [.ref 89, .int x1, .int x2, .int x3, .int x4, .long x5, .null, .int x7, .int x8, .int x9, .null, .null] μ Q := wm_vc mo_274 (rt := some .long) (by decide +kernel) mc_274 198 h
-- WindBoatModel.aimOf(IIII)J, the place 142
set_option maxRecDepth 100000 in
set_option maxHeartbeats 8000000 in
theorem w_274_142 (x1 : Int32) (x2 : Int32) (x3 : Int32) (x4 : Int32) (x8 : Int32) (x10 : Int64) (μ : wm_M) (Q : Option Value → wm_M → Prop) (h : wm_Wp 0 274 151 [.ref 89, .int x1, .int x2, .int x3, .int x4, .long x10, .null, .null, .int x8, .null, .null, .null] μ Q) : wm_Wp 0 274 142 [.ref 89, .int x1, .int x2, .int x3, .int x4, .null, .null, .null, .int x8, .null, .long x10, .null] μ Q := wm_vc mo_274 (rt := some .long) (by decide +kernel) mc_274 198 h
-- WindBoatModel.aimOf(IIII)J, the place 147
set_option maxRecDepth 100000 in
set_option maxHeartbeats 8000000 in
theorem w_274_147 (x1 : Int32) (x2 : Int32) (x3 : Int32) (x4 : Int32) (x5 : Int64) (x8 : Int32) (μ : wm_M) (Q : Option Value → wm_M → Prop) (h : wm_Wp 0 274 151 [.ref 89, .int x1, .int x2, .int x3, .int x4, .long x5, .null, .null, .int x8, .null, .null, .null] μ Q) : wm_Wp 0 274 147 [.ref 89, .int x1, .int x2, .int x3, .int x4, .long x5, .null, .null, .int x8, .null, .null, .null] μ Q := wm_vc mo_274 (rt := some .long) (by decide +kernel) mc_274 198 h
-- WindBoatModel.aimOf(IIII)J, the place 151
set_option maxRecDepth 100000 in
set_option maxHeartbeats 8000000 in
theorem w_274_151 (x1 : Int32) (x2 : Int32) (x3 : Int32) (x4 : Int32) (x5 : Int64) (x8 : Int32) (μ : wm_M) (Q : Option Value → wm_M → Prop) (h : wm_Wp 0 274 154 [.ref 89, .int x1, .int x2, .int x3, .int x4, .long x5, .null, .int (1 : Int32), .int x8, .null, .null, .null] μ Q) : wm_Wp 0 274 151 [.ref 89, .int x1, .int x2, .int x3, .int x4, .long x5, .null, .null, .int x8, .null, .null, .null] μ Q := wm_vc mo_274 (rt := some .long) (by decide +kernel) mc_274 198 h
-- WindBoatModel.aimOf(IIII)J, the place 154
set_option maxRecDepth 100000 in
set_option maxHeartbeats 8000000 in
theorem w_274_154 (x1 : Int32) (x2 : Int32) (x3 : Int32) (x4 : Int32) (x5 : Int64) (x7 : Int32) (x8 : Int32) (μ : wm_M) (Q : Option Value → wm_M → Prop) (h : wm_Wp 0 274 9 [.ref 89, .int x1, .int x2, .int x3, .int x4, .long x5, .null, .int x7, .int (x8 + (1 : Int32)), .null, .null, .null] μ Q) : wm_Wp 0 274 154 [.ref 89, .int x1, .int x2, .int x3, .int x4, .long x5, .null, .int x7, .int x8, .null, .null, .null] μ Q := wm_vc mo_274 (rt := some .long) (by decide +kernel) mc_274 198 h
-- WindBoatModel.aimOf(IIII)J, the place 160
set_option maxRecDepth 100000 in
set_option maxHeartbeats 8000000 in
theorem w_274_160 (x5 : Int64) (μ : wm_M) (Q : Option Value → wm_M → Prop) (h : Q (some (.long x5)) μ) : wm_Wp 0 274 160 [.null, .null, .null, .null, .null, .long x5, .null, .null, .null, .null, .null, .null] μ Q := wm_vc mo_274 (rt := some .long) (by decide +kernel) mc_274 198 h
-- WindBoatModel.hasTold(I)Z
set_option maxRecDepth 100000 in
set_option maxHeartbeats 8000000 in
theorem v_275 (a1 : Int32) (μ : wm_M) (Q : Option Value → wm_M → Prop) (h : wm_Wp 0 275 4 [.ref 89, .int a1, .int (0 : Int32), .int (0 : Int32)] μ Q) : wm_Ok 0 275 [.ref 89, .int a1] μ Q := wm_ent (nL := 4) (l := [.ref 89, .int a1, .null, .null]) (by decide +kernel) (by decide +kernel) (by decide +kernel) rfl rfl (wm_vc mo_275 (rt := some .boolean) (by decide +kernel) mc_275 72 h)
-- WindBoatModel.hasTold(I)Z, the place 4
set_option maxRecDepth 100000 in
set_option maxHeartbeats 8000000 in
theorem w_275_4 (x1 : Int32) (x2 : Int32) (x3 : Int32) (μ : wm_M) (Q : Option Value → wm_M → Prop) (h : (((6 : Int32) ≤ x3 → wm_Wp 0 275 43 [.null, .null, .int x2, .null] μ Q) ∧ (¬ (6 : Int32) ≤ x3 → ((x2 = (0 : Int32) → wm_OkI 0 266 [.ref 89, .int x3] μ (fun r2 μ1 => ((r2 = (0 : Int32) → wm_Wp 0 275 35 [.ref 89, .int x1, .null, .int x3] μ1 Q) ∧ (¬ r2 = (0 : Int32) → wm_OkI 0 273 [.ref 89, .int x3] μ1 (fun r4 μ3 => ((r4 = x1 → wm_Wp 0 275 31 [.ref 89, .int x1, .null, .int x3] μ3 Q) ∧ (¬ r4 = x1 → wm_Wp 0 275 35 [.ref 89, .int x1, .null, .int x3] μ3 Q))))))) ∧ (¬ x2 = (0 : Int32) → wm_Wp 0 275 31 [.ref 89, .int x1, .null, .int x3] μ Q))))) : wm_Wp 0 275 4 [.ref 89, .int x1, .int x2, .int x3] μ Q := wm_vc mo_275 (rt := some .boolean) (by decide +kernel) mc_275 72 h
-- WindBoatModel.hasTold(I)Z, the place 31
set_option maxRecDepth 100000 in
set_option maxHeartbeats 8000000 in
theorem w_275_31 (x1 : Int32) (x3 : Int32) (μ : wm_M) (Q : Option Value → wm_M → Prop) (h : wm_Wp 0 275 4 [.ref 89, .int x1, .int (1 : Int32), .int (x3 + (1 : Int32))] μ Q) : wm_Wp 0 275 31 [.ref 89, .int x1, .null, .int x3] μ Q := wm_vc mo_275 (rt := some .boolean) (by decide +kernel) mc_275 72 h
-- WindBoatModel.hasTold(I)Z, the place 35
set_option maxRecDepth 100000 in
set_option maxHeartbeats 8000000 in
theorem w_275_35 (x1 : Int32) (x3 : Int32) (μ : wm_M) (Q : Option Value → wm_M → Prop) (h : wm_Wp 0 275 4 [.ref 89, .int x1, .int (0 : Int32), .int (x3 + (1 : Int32))] μ Q) : wm_Wp 0 275 35 [.ref 89, .int x1, .null, .int x3] μ Q := wm_vc mo_275 (rt := some .boolean) (by decide +kernel) mc_275 72 h
-- WindBoatModel.hasTold(I)Z, the place 43
set_option maxRecDepth 100000 in
set_option maxHeartbeats 8000000 in
theorem w_275_43 (x2 : Int32) (μ : wm_M) (Q : Option Value → wm_M → Prop) (h : ((x2 = 0 ∨ x2 = 1) ∧ Q (some (.int x2)) μ)) : wm_Wp 0 275 43 [.null, .null, .int x2, .null] μ Q := wm_vc mo_275 (rt := some .boolean) (by decide +kernel) mc_275 72 h
-- WindBoatModel.trees(I)J
set_option maxRecDepth 100000 in
set_option maxHeartbeats 8000000 in
theorem v_276 (a1 : Int32) (μ : wm_M) (Q : Option Value → wm_M → Prop) (h : wm_Wp 0 276 2 [.ref 89, .int a1, .int (0 : Int32), .null, .null, .null, .null, .null, .null, .null, .null] μ Q) : wm_Ok 0 276 [.ref 89, .int a1] μ Q := wm_ent (nL := 11) (l := [.ref 89, .int a1, .null, .null, .null, .null, .null, .null, .null, .null, .null]) (by decide +kernel) (by decide +kernel) (by decide +kernel) rfl rfl (wm_vc mo_276 (rt := some .long) (by decide +kernel) mc_276 248 h)
-- WindBoatModel.trees(I)J, the place 2
set_option maxRecDepth 100000 in
set_option maxHeartbeats 8000000 in
theorem w_276_2 (x1 : Int32) (x2 : Int32) (μ : wm_M) (Q : Option Value → wm_M → Prop) (h : (((6 : Int32) ≤ x2 → wm_Wp 0 276 25 [.ref 89, .int x1, .null, .null, .null, .null, .null, .null, .null, .null, .null] μ Q) ∧ (¬ (6 : Int32) ≤ x2 → wm_OkI 0 271 [.ref 89, .int x2] μ (fun r2 μ1 => (vp_in x2 6 ∧ wm_Wp 0 276 2 [.ref 89, .int x1, .int (x2 + (1 : Int32)), .null, .null, .null, .null, .null, .null, .null, .null] (wm_si μ1 104 (x2).toNatClampNeg r2) Q))))) : wm_Wp 0 276 2 [.ref 89, .int x1, .int x2, .null, .null, .null, .null, .null, .null, .null, .null] μ Q := wm_vc mo_276 (rt := some .long) (by decide +kernel) mc_276 248 h
-- WindBoatModel.trees(I)J, the place 25
set_option maxRecDepth 100000 in
set_option maxHeartbeats 8000000 in
theorem w_276_25 (x1 : Int32) (μ : wm_M) (Q : Option Value → wm_M → Prop) (h : wm_Wp 0 276 35 [.ref 89, .int x1, .long (0 : Int64), .null, .int (0 : Int32), .null, .null, .null, .null, .null, .null] (wm_si μ 89 38 (-1 : Int32)) Q) : wm_Wp 0 276 25 [.ref 89, .int x1, .null, .null, .null, .null, .null, .null, .null, .null, .null] μ Q := wm_vc mo_276 (rt := some .long) (by decide +kernel) mc_276 248 h
-- WindBoatModel.trees(I)J, the place 35
set_option maxRecDepth 100000 in
set_option maxHeartbeats 8000000 in
theorem w_276_35 (x1 : Int32) (x2 : Int64) (x4 : Int32) (μ : wm_M) (Q : Option Value → wm_M → Prop) (h : (((3 : Int32) ≤ x4 → wm_Wp 0 276 212 [.null, .null, .long x2, .null, .null, .null, .null, .null, .null, .null, .null] μ Q) ∧ (¬ (3 : Int32) ≤ x4 → wm_Wp 0 276 44 [.ref 89, .int x1, .long x2, .null, .int x4, .int (0 : Int32), .null, .null, .null, .null, .null] μ Q))) : wm_Wp 0 276 35 [.ref 89, .int x1, .long x2, .null, .int x4, .null, .null, .null, .null, .null, .null] μ Q := wm_vc mo_276 (rt := some .long) (by decide +kernel) mc_276 248 h
-- WindBoatModel.trees(I)J, the place 44
set_option maxRecDepth 100000 in
set_option maxHeartbeats 8000000 in
theorem w_276_44 (x1 : Int32) (x2 : Int64) (x4 : Int32) (x5 : Int32) (μ : wm_M) (Q : Option Value → wm_M → Prop) (h : (((3 : Int32) ≤ x5 → wm_Wp 0 276 139 [.ref 89, .int x1, .long x2, .null, .int x4, .null, .null, .null, .null, .null, .null] μ Q) ∧ (¬ (3 : Int32) ≤ x5 → (vp_in x5 3 ∧ wm_Wp 0 276 64 [.ref 89, .int x1, .long x2, .null, .int x4, .int x5, .long (0 : Int64), .null, .int (0 : Int32), .null, .null] (wm_si μ 105 (x5).toNatClampNeg (-1 : Int32)) Q)))) : wm_Wp 0 276 44 [.ref 89, .int x1, .long x2, .null, .int x4, .int x5, .null, .null, .null, .null, .null] μ Q := wm_vc mo_276 (rt := some .long) (by decide +kernel) mc_276 248 h
-- WindBoatModel.trees(I)J, the place 64
set_option maxRecDepth 100000 in
set_option maxHeartbeats 8000000 in
theorem w_276_64 (x1 : Int32) (x2 : Int64) (x4 : Int32) (x5 : Int32) (x6 : Int64) (x8 : Int32) (μ : wm_M) (Q : Option Value → wm_M → Prop) (h : (((3 : Int32) ≤ x8 → wm_Wp 0 276 133 [.ref 89, .int x1, .long x2, .null, .int x4, .int x5, .null, .null, .null, .null, .null] μ Q) ∧ (¬ (3 : Int32) ≤ x8 → wm_OkI 0 275 [.ref 89, .int x5] μ (fun r2 μ1 => ((r2 = (0 : Int32) → wm_Wp 0 276 133 [.ref 89, .int x1, .long x2, .null, .int x4, .int x5, .null, .null, .null, .null, .null] μ1 Q) ∧ (¬ r2 = (0 : Int32) → wm_OkJ 0 274 [.ref 89, .int x1, .int x4, .int x5, .int x8] μ1 (fun r4 μ3 => (vp_in x5 3 ∧ (((μ3.1 105 (x5).toNatClampNeg) = (-1 : Int32) → wm_Wp 0 276 114 [.ref 89, .int x1, .long x2, .null, .int x4, .int x5, .null, .null, .int x8, .long r4, .null] μ3 Q) ∧ (¬ (μ3.1 105 (x5).toNatClampNeg) = (-1 : Int32) → (((lg_cmp r4 x6) < (0 : Int32) → wm_Wp 0 276 114 [.ref 89, .int x1, .long x2, .null, .int x4, .int x5, .null, .null, .int x8, .long r4, .null] μ3 Q) ∧ (¬ (lg_cmp r4 x6) < (0 : Int32) → wm_Wp 0 276 127 [.ref 89, .int x1, .long x2, .null, .int x4, .int x5, .long x6, .null, .int x8, .null, .null] μ3 Q)))))))))))) : wm_Wp 0 276 64 [.ref 89, .int x1, .long x2, .null, .int x4, .int x5, .long x6, .null, .int x8, .null, .null] μ Q := wm_vc mo_276 (rt := some .long) (by decide +kernel) mc_276 248 h
-- WindBoatModel.trees(I)J, the place 114
set_option maxRecDepth 100000 in
set_option maxHeartbeats 8000000 in
theorem w_276_114 (x1 : Int32) (x2 : Int64) (x4 : Int32) (x5 : Int32) (x8 : Int32) (x9 : Int64) (μ : wm_M) (Q : Option Value → wm_M → Prop) (h : (vp_in x5 3 ∧ wm_Wp 0 276 127 [.ref 89, .int x1, .long x2, .null, .int x4, .int x5, .long x9, .null, .int x8, .null, .null] (wm_si μ 105 (x5).toNatClampNeg x8) Q)) : wm_Wp 0 276 114 [.ref 89, .int x1, .long x2, .null, .int x4, .int x5, .null, .null, .int x8, .long x9, .null] μ Q := wm_vc mo_276 (rt := some .long) (by decide +kernel) mc_276 248 h
-- WindBoatModel.trees(I)J, the place 127
set_option maxRecDepth 100000 in
set_option maxHeartbeats 8000000 in
theorem w_276_127 (x1 : Int32) (x2 : Int64) (x4 : Int32) (x5 : Int32) (x6 : Int64) (x8 : Int32) (μ : wm_M) (Q : Option Value → wm_M → Prop) (h : wm_Wp 0 276 64 [.ref 89, .int x1, .long x2, .null, .int x4, .int x5, .long x6, .null, .int (x8 + (1 : Int32)), .null, .null] μ Q) : wm_Wp 0 276 127 [.ref 89, .int x1, .long x2, .null, .int x4, .int x5, .long x6, .null, .int x8, .null, .null] μ Q := wm_vc mo_276 (rt := some .long) (by decide +kernel) mc_276 248 h
-- WindBoatModel.trees(I)J, the place 133
set_option maxRecDepth 100000 in
set_option maxHeartbeats 8000000 in
theorem w_276_133 (x1 : Int32) (x2 : Int64) (x4 : Int32) (x5 : Int32) (μ : wm_M) (Q : Option Value → wm_M → Prop) (h : wm_Wp 0 276 44 [.ref 89, .int x1, .long x2, .null, .int x4, .int (x5 + (1 : Int32)), .null, .null, .null, .null, .null] μ Q) : wm_Wp 0 276 133 [.ref 89, .int x1, .long x2, .null, .int x4, .int x5, .null, .null, .null, .null, .null] μ Q := wm_vc mo_276 (rt := some .long) (by decide +kernel) mc_276 248 h
-- WindBoatModel.trees(I)J, the place 139
set_option maxRecDepth 100000 in
set_option maxHeartbeats 8000000 in
theorem w_276_139 (x1 : Int32) (x2 : Int64) (x4 : Int32) (μ : wm_M) (Q : Option Value → wm_M → Prop) (h : wm_OkJ 0 274 [.ref 89, .int x1, .int x4, .int (-1 : Int32), .int (0 : Int32)] μ (fun r2 μ1 => (((μ1.1 89 38) = (-1 : Int32) → wm_Wp 0 276 168 [.ref 89, .int x1, .null, .null, .int x4, .long r2, .null, .null, .null, .null, .null] μ1 Q) ∧ (¬ (μ1.1 89 38) = (-1 : Int32) → (((lg_cmp r2 x2) < (0 : Int32) → wm_Wp 0 276 168 [.ref 89, .int x1, .null, .null, .int x4, .long r2, .null, .null, .null, .null, .null] μ1 Q) ∧ (¬ (lg_cmp r2 x2) < (0 : Int32) → wm_Wp 0 276 206 [.ref 89, .int x1, .long x2, .null, .int x4, .null, .null, .null, .null, .null, .null] μ1 Q)))))) : wm_Wp 0 276 139 [.ref 89, .int x1, .long x2, .null, .int x4, .null, .null, .null, .null, .null, .null] μ Q := wm_vc mo_276 (rt := some .long) (by decide +kernel) mc_276 248 h
-- WindBoatModel.trees(I)J, the place 168
set_option maxRecDepth 100000 in
set_option maxHeartbeats 8000000 in
theorem w_276_168 (x1 : Int32) (x4 : Int32) (x5 : Int64) (μ : wm_M) (Q : Option Value → wm_M → Prop) (h : wm_Wp 0 276 180 [.ref 89, .int x1, .long x5, .null, .int x4, .null, .null, .int (0 : Int32), .null, .null, .null] (wm_si μ 89 38 x4) Q) : wm_Wp 0 276 168 [.ref 89, .int x1, .null, .null, .int x4, .long x5, .null, .null, .null, .null, .null] μ Q := wm_vc mo_276 (rt := some .long) (by decide +kernel) mc_276 248 h
-- WindBoatModel.trees(I)J, the place 180
set_option maxRecDepth 100000 in
set_option maxHeartbeats 8000000 in
theorem w_276_180 (x1 : Int32) (x2 : Int64) (x4 : Int32) (x7 : Int32) (μ : wm_M) (Q : Option Value → wm_M → Prop) (h : (((3 : Int32) ≤ x7 → wm_Wp 0 276 206 [.ref 89, .int x1, .long x2, .null, .int x4, .null, .null, .null, .null, .null, .null] μ Q) ∧ (¬ (3 : Int32) ≤ x7 → (vp_in x7 3 ∧ (vp_in x7 3 ∧ wm_Wp 0 276 180 [.ref 89, .int x1, .long x2, .null, .int x4, .null, .null, .int (x7 + (1 : Int32)), .null, .null, .null] (wm_si μ 106 (x7).toNatClampNeg (μ.1 105 (x7).toNatClampNeg)) Q))))) : wm_Wp 0 276 180 [.ref 89, .int x1, .long x2, .null, .int x4, .null, .null, .int x7, .null, .null, .null] μ Q := wm_vc mo_276 (rt := some .long) (by decide +kernel) mc_276 248 h
-- WindBoatModel.trees(I)J, the place 206
set_option maxRecDepth 100000 in
set_option maxHeartbeats 8000000 in
theorem w_276_206 (x1 : Int32) (x2 : Int64) (x4 : Int32) (μ : wm_M) (Q : Option Value → wm_M → Prop) (h : wm_Wp 0 276 35 [.ref 89, .int x1, .long x2, .null, .int (x4 + (1 : Int32)), .null, .null, .null, .null, .null, .null] μ Q) : wm_Wp 0 276 206 [.ref 89, .int x1, .long x2, .null, .int x4, .null, .null, .null, .null, .null, .null] μ Q := wm_vc mo_276 (rt := some .long) (by decide +kernel) mc_276 248 h
-- WindBoatModel.trees(I)J, the place 212
set_option maxRecDepth 100000 in
set_option maxHeartbeats 8000000 in
theorem w_276_212 (x2 : Int64) (μ : wm_M) (Q : Option Value → wm_M → Prop) (h : Q (some (.long x2)) μ) : wm_Wp 0 276 212 [.null, .null, .long x2, .null, .null, .null, .null, .null, .null, .null, .null] μ Q := wm_vc mo_276 (rt := some .long) (by decide +kernel) mc_276 248 h
-- WindBoatModel.anyTold()Z
set_option maxRecDepth 100000 in
set_option maxHeartbeats 8000000 in
theorem v_277 (μ : wm_M) (Q : Option Value → wm_M → Prop) (h : wm_Wp 0 277 4 [.ref 89, .int (0 : Int32), .int (0 : Int32)] μ Q) : wm_Ok 0 277 [.ref 89] μ Q := wm_ent (nL := 3) (l := [.ref 89, .null, .null]) (by decide +kernel) (by decide +kernel) (by decide +kernel) rfl rfl (wm_vc mo_277 (rt := some .boolean) (by decide +kernel) mc_277 62 h)
-- WindBoatModel.anyTold()Z, the place 4
set_option maxRecDepth 100000 in
set_option maxHeartbeats 8000000 in
theorem w_277_4 (x1 : Int32) (x2 : Int32) (μ : wm_M) (Q : Option Value → wm_M → Prop) (h : (((6 : Int32) ≤ x2 → wm_Wp 0 277 34 [.null, .int x1, .null] μ Q) ∧ (¬ (6 : Int32) ≤ x2 → ((x1 = (0 : Int32) → wm_OkI 0 266 [.ref 89, .int x2] μ (fun r2 μ1 => ((r2 = (0 : Int32) → wm_Wp 0 277 26 [.ref 89, .null, .int x2] μ1 Q) ∧ (¬ r2 = (0 : Int32) → wm_Wp 0 277 22 [.ref 89, .null, .int x2] μ1 Q)))) ∧ (¬ x1 = (0 : Int32) → wm_Wp 0 277 22 [.ref 89, .null, .int x2] μ Q))))) : wm_Wp 0 277 4 [.ref 89, .int x1, .int x2] μ Q := wm_vc mo_277 (rt := some .boolean) (by decide +kernel) mc_277 62 h
-- WindBoatModel.anyTold()Z, the place 22
set_option maxRecDepth 100000 in
set_option maxHeartbeats 8000000 in
theorem w_277_22 (x2 : Int32) (μ : wm_M) (Q : Option Value → wm_M → Prop) (h : wm_Wp 0 277 4 [.ref 89, .int (1 : Int32), .int (x2 + (1 : Int32))] μ Q) : wm_Wp 0 277 22 [.ref 89, .null, .int x2] μ Q := wm_vc mo_277 (rt := some .boolean) (by decide +kernel) mc_277 62 h
-- WindBoatModel.anyTold()Z, the place 26
set_option maxRecDepth 100000 in
set_option maxHeartbeats 8000000 in
theorem w_277_26 (x2 : Int32) (μ : wm_M) (Q : Option Value → wm_M → Prop) (h : wm_Wp 0 277 4 [.ref 89, .int (0 : Int32), .int (x2 + (1 : Int32))] μ Q) : wm_Wp 0 277 26 [.ref 89, .null, .int x2] μ Q := wm_vc mo_277 (rt := some .boolean) (by decide +kernel) mc_277 62 h
-- WindBoatModel.anyTold()Z, the place 34
set_option maxRecDepth 100000 in
set_option maxHeartbeats 8000000 in
theorem w_277_34 (x1 : Int32) (μ : wm_M) (Q : Option Value → wm_M → Prop) (h : ((x1 = 0 ∨ x1 = 1) ∧ Q (some (.int x1)) μ)) : wm_Wp 0 277 34 [.null, .int x1, .null] μ Q := wm_vc mo_277 (rt := some .boolean) (by decide +kernel) mc_277 62 h
-- WindBoatModel.tree(II)J
set_option maxRecDepth 100000 in
set_option maxHeartbeats 8000000 in
theorem v_278 (a1 : Int32) (a2 : Int32) (μ : wm_M) (Q : Option Value → wm_M → Prop) (h : wm_OkI 0 188 [.ref 89, .int (6 : Int32)] μ (fun r2 μ1 => ((r2 = (0 : Int32) → wm_Wp 0 278 16 [.ref 89, .null, .null, .null, .null, .null, .null, .null, .null, .null] μ1 Q) ∧ (¬ r2 = (0 : Int32) → wm_OkI 0 277 [.ref 89] μ1 (fun r4 μ3 => ((r4 = (0 : Int32) → wm_Wp 0 278 16 [.ref 89, .null, .null, .null, .null, .null, .null, .null, .null, .null] μ3 Q) ∧ (¬ r4 = (0 : Int32) → wm_Wp 0 278 24 [.ref 89, .int a1, .int a2, .null, .null, .null, .null, .null, .null, .null] μ3 Q))))))) : wm_Ok 0 278 [.ref 89, .int a1, .int a2] μ Q := wm_ent (nL := 10) (l := [.ref 89, .int a1, .int a2, .null, .null, .null, .null, .null, .null, .null]) (by decide +kernel) (by decide +kernel) (by decide +kernel) rfl rfl (wm_vc mo_278 (rt := some .long) (by decide +kernel) mc_278 284 h)
-- WindBoatModel.tree(II)J, the place 16
set_option maxRecDepth 100000 in
set_option maxHeartbeats 8000000 in
theorem w_278_16 (μ : wm_M) (Q : Option Value → wm_M → Prop) (h : wm_OkI 0 185 [.ref 89, .int (-2 : Int32)] μ (fun r2 μ1 => Q (some (.long (r2).toInt64)) μ1)) : wm_Wp 0 278 16 [.ref 89, .null, .null, .null, .null, .null, .null, .null, .null, .null] μ Q := wm_vc mo_278 (rt := some .long) (by decide +kernel) mc_278 284 h
-- WindBoatModel.tree(II)J, the place 24
set_option maxRecDepth 100000 in
set_option maxHeartbeats 8000000 in
theorem w_278_24 (x1 : Int32) (x2 : Int32) (μ : wm_M) (Q : Option Value → wm_M → Prop) (h : wm_OkI 0 184 [.int x1, .int (0 : Int32), .int (2 : Int32)] μ (fun r2 μ1 => ((r2 = (0 : Int32) → wm_Wp 0 278 42 [.ref 89, .null, .null, .null, .null, .null, .null, .null, .null, .null] μ1 Q) ∧ (¬ r2 = (0 : Int32) → wm_OkI 0 184 [.int x2, .int (0 : Int32), .int (5 : Int32)] μ1 (fun r4 μ3 => ((r4 = (0 : Int32) → wm_Wp 0 278 42 [.ref 89, .null, .null, .null, .null, .null, .null, .null, .null, .null] μ3 Q) ∧ (¬ r4 = (0 : Int32) → wm_Wp 0 278 50 [.ref 89, .int x1, .int x2, .null, .null, .null, .null, .null, .null, .null] μ3 Q))))))) : wm_Wp 0 278 24 [.ref 89, .int x1, .int x2, .null, .null, .null, .null, .null, .null, .null] μ Q := wm_vc mo_278 (rt := some .long) (by decide +kernel) mc_278 284 h
-- WindBoatModel.tree(II)J, the place 42
set_option maxRecDepth 100000 in
set_option maxHeartbeats 8000000 in
theorem w_278_42 (μ : wm_M) (Q : Option Value → wm_M → Prop) (h : wm_OkI 0 185 [.ref 89, .int (-7 : Int32)] μ (fun r2 μ1 => Q (some (.long (r2).toInt64)) μ1)) : wm_Wp 0 278 42 [.ref 89, .null, .null, .null, .null, .null, .null, .null, .null, .null] μ Q := wm_vc mo_278 (rt := some .long) (by decide +kernel) mc_278 284 h
-- WindBoatModel.tree(II)J, the place 50
set_option maxRecDepth 100000 in
set_option maxHeartbeats 8000000 in
theorem w_278_50 (x1 : Int32) (x2 : Int32) (μ : wm_M) (Q : Option Value → wm_M → Prop) (h : wm_OkV 0 268 [.ref 89] μ (fun μ1 => (((0 : Int32) = 0 ∨ (0 : Int32) = 1) ∧ wm_OkJ 0 276 [.ref 89, .int x1] (wm_si μ1 89 37 (0 : Int32)) (fun r3 μ2 => ((x2 = (0 : Int32) → Q (some (.long ((μ2.1 89 38)).toInt64)) μ2) ∧ (¬ x2 = (0 : Int32) → wm_Wp 0 278 75 [.ref 89, .null, .int x2, .long r3, .null, .null, .null, .null, .null, .null] μ2 Q)))))) : wm_Wp 0 278 50 [.ref 89, .int x1, .int x2, .null, .null, .null, .null, .null, .null, .null] μ Q := wm_vc mo_278 (rt := some .long) (by decide +kernel) mc_278 284 h
-- WindBoatModel.tree(II)J, the place 75
set_option maxRecDepth 100000 in
set_option maxHeartbeats 8000000 in
theorem w_278_75 (x2 : Int32) (x3 : Int64) (μ : wm_M) (Q : Option Value → wm_M → Prop) (h : ((x2 = (1 : Int32) → Q (some (.long x3)) μ) ∧ (¬ x2 = (1 : Int32) → wm_Wp 0 278 82 [.ref 89, .null, .int x2, .null, .null, .null, .null, .null, .null, .null] μ Q))) : wm_Wp 0 278 75 [.ref 89, .null, .int x2, .long x3, .null, .null, .null, .null, .null, .null] μ Q := wm_vc mo_278 (rt := some .long) (by decide +kernel) mc_278 284 h
-- WindBoatModel.tree(II)J, the place 82
set_option maxRecDepth 100000 in
set_option maxHeartbeats 8000000 in
theorem w_278_82 (x2 : Int32) (μ : wm_M) (Q : Option Value → wm_M → Prop) (h : (((5 : Int32) ≤ x2 → wm_Wp 0 278 97 [.ref 89, .null, .null, .null, .null, .null, .null, .null, .null, .null] μ Q) ∧ (¬ (5 : Int32) ≤ x2 → (vp_in (x2 - (2 : Int32)) 3 ∧ Q (some (.long ((μ.1 106 ((x2 - (2 : Int32))).toNatClampNeg)).toInt64)) μ)))) : wm_Wp 0 278 82 [.ref 89, .null, .int x2, .null, .null, .null, .null, .null, .null, .null] μ Q := wm_vc mo_278 (rt := some .long) (by decide +kernel) mc_278 284 h
-- WindBoatModel.tree(II)J, the place 97
set_option maxRecDepth 100000 in
set_option maxHeartbeats 8000000 in
theorem w_278_97 (μ : wm_M) (Q : Option Value → wm_M → Prop) (h : wm_Wp 0 278 103 [.ref 89, .null, .null, .null, .null, .long (0 : Int64), .null, .int (0 : Int32), .null, .null] μ Q) : wm_Wp 0 278 97 [.ref 89, .null, .null, .null, .null, .null, .null, .null, .null, .null] μ Q := wm_vc mo_278 (rt := some .long) (by decide +kernel) mc_278 284 h
-- WindBoatModel.tree(II)J, the place 103
set_option maxRecDepth 100000 in
set_option maxHeartbeats 8000000 in
theorem w_278_103 (x5 : Int64) (x7 : Int32) (μ : wm_M) (Q : Option Value → wm_M → Prop) (h : (((6 : Int32) ≤ x7 → wm_Wp 0 278 228 [.null, .null, .null, .null, .null, .long x5, .null, .null, .null, .null] μ Q) ∧ (¬ (6 : Int32) ≤ x7 → wm_OkI 0 266 [.ref 89, .int x7] μ (fun r2 μ1 => ((r2 = (0 : Int32) → wm_Wp 0 278 222 [.ref 89, .null, .null, .null, .null, .long x5, .null, .int x7, .null, .null] μ1 Q) ∧ (¬ r2 = (0 : Int32) → wm_Wp 0 278 122 [.ref 89, .null, .null, .null, .null, .long x5, .null, .int x7, .null, .null] μ1 Q)))))) : wm_Wp 0 278 103 [.ref 89, .null, .null, .null, .null, .long x5, .null, .int x7, .null, .null] μ Q := wm_vc mo_278 (rt := some .long) (by decide +kernel) mc_278 284 h
-- WindBoatModel.tree(II)J, the place 122
set_option maxRecDepth 100000 in
set_option maxHeartbeats 8000000 in
theorem w_278_122 (x5 : Int64) (x7 : Int32) (μ : wm_M) (Q : Option Value → wm_M → Prop) (h : wm_Wp 0 278 128 [.ref 89, .null, .null, .null, .null, .long x5, .null, .int x7, .int (1 : Int32), .int (0 : Int32)] μ Q) : wm_Wp 0 278 122 [.ref 89, .null, .null, .null, .null, .long x5, .null, .int x7, .null, .null] μ Q := wm_vc mo_278 (rt := some .long) (by decide +kernel) mc_278 284 h
-- WindBoatModel.tree(II)J, the place 128
set_option maxRecDepth 100000 in
set_option maxHeartbeats 8000000 in
theorem w_278_128 (x5 : Int64) (x7 : Int32) (x8 : Int32) (x9 : Int32) (μ : wm_M) (Q : Option Value → wm_M → Prop) (h : (((6 : Int32) ≤ x9 → wm_Wp 0 278 205 [.ref 89, .null, .null, .null, .null, .long x5, .null, .int x7, .int x8, .null] μ Q) ∧ (¬ (6 : Int32) ≤ x9 → (vp_in (((2004 : Int32) + ((6 : Int32) * x9)) + x7) 2060 ∧ (vp_in ((1995 : Int32) + x7) 2060 ∧ (vp_in (μ.1 91 (((1995 : Int32) + x7)).toNatClampNeg) 3 ∧ (vp_in ((((9 : Int32) * x7) + ((3 : Int32) * (μ.1 89 38))) + (μ.1 106 ((μ.1 91 (((1995 : Int32) + x7)).toNatClampNeg)).toNatClampNeg)) 54 ∧ (((μ.1 98 (((((9 : Int32) * x7) + ((3 : Int32) * (μ.1 89 38))) + (μ.1 106 ((μ.1 91 (((1995 : Int32) + x7)).toNatClampNeg)).toNatClampNeg))).toNatClampNeg) ≤ (μ.1 91 ((((2004 : Int32) + ((6 : Int32) * x9)) + x7)).toNatClampNeg) → wm_Wp 0 278 128 [.ref 89, .null, .null, .null, .null, .long x5, .null, .int x7, .int (x8 + (0 : Int32)), .int (x9 + (1 : Int32))] μ Q) ∧ (¬ (μ.1 98 (((((9 : Int32) * x7) + ((3 : Int32) * (μ.1 89 38))) + (μ.1 106 ((μ.1 91 (((1995 : Int32) + x7)).toNatClampNeg)).toNatClampNeg))).toNatClampNeg) ≤ (μ.1 91 ((((2004 : Int32) + ((6 : Int32) * x9)) + x7)).toNatClampNeg) → wm_Wp 0 278 128 [.ref 89, .null, .null, .null, .null, .long x5, .null, .int x7, .int (x8 + (1 : Int32)), .int (x9 + (1 : Int32))] μ Q))))))))) : wm_Wp 0 278 128 [.ref 89, .null, .null, .null, .null, .long x5, .null, .int x7, .int x8, .int x9] μ Q := wm_vc mo_278 (rt := some .long) (by decide +kernel) mc_278 284 h
-- WindBoatModel.tree(II)J, the place 205
set_option maxRecDepth 100000 in
set_option maxHeartbeats 8000000 in
theorem w_278_205 (x5 : Int64) (x7 : Int32) (x8 : Int32) (μ : wm_M) (Q : Option Value → wm_M → Prop) (h : (vp_in x7 6 ∧ wm_Wp 0 278 222 [.ref 89, .null, .null, .null, .null, .long (x5 + ((x8).toInt64 * ((μ.1 104 (x7).toNatClampNeg)).toInt64)), .null, .int x7, .null, .null] μ Q)) : wm_Wp 0 278 205 [.ref 89, .null, .null, .null, .null, .long x5, .null, .int x7, .int x8, .null] μ Q := wm_vc mo_278 (rt := some .long) (by decide +kernel) mc_278 284 h
-- WindBoatModel.tree(II)J, the place 222
set_option maxRecDepth 100000 in
set_option maxHeartbeats 8000000 in
theorem w_278_222 (x5 : Int64) (x7 : Int32) (μ : wm_M) (Q : Option Value → wm_M → Prop) (h : wm_Wp 0 278 103 [.ref 89, .null, .null, .null, .null, .long x5, .null, .int (x7 + (1 : Int32)), .null, .null] μ Q) : wm_Wp 0 278 222 [.ref 89, .null, .null, .null, .null, .long x5, .null, .int x7, .null, .null] μ Q := wm_vc mo_278 (rt := some .long) (by decide +kernel) mc_278 284 h
-- WindBoatModel.tree(II)J, the place 228
set_option maxRecDepth 100000 in
set_option maxHeartbeats 8000000 in
theorem w_278_228 (x5 : Int64) (μ : wm_M) (Q : Option Value → wm_M → Prop) (h : Q (some (.long x5)) μ) : wm_Wp 0 278 228 [.null, .null, .null, .null, .null, .long x5, .null, .null, .null, .null] μ Q := wm_vc mo_278 (rt := some .long) (by decide +kernel) mc_278 284 h
-- WindBoatModel.worth()J
set_option maxRecDepth 100000 in
set_option maxHeartbeats 8000000 in
theorem v_279 (μ : wm_M) (Q : Option Value → wm_M → Prop) (h : wm_OkI 0 188 [.ref 89, .int (6 : Int32)] μ (fun r2 μ1 => ((r2 = (0 : Int32) → wm_Wp 0 279 16 [.ref 89, .null, .null] μ1 Q) ∧ (¬ r2 = (0 : Int32) → wm_OkI 0 277 [.ref 89] μ1 (fun r4 μ3 => ((r4 = (0 : Int32) → wm_Wp 0 279 16 [.ref 89, .null, .null] μ3 Q) ∧ (¬ r4 = (0 : Int32) → wm_Wp 0 279 24 [.ref 89, .null, .null] μ3 Q))))))) : wm_Ok 0 279 [.ref 89] μ Q := wm_ent (nL := 3) (l := [.ref 89, .null, .null]) (by decide +kernel) (by decide +kernel) (by decide +kernel) rfl rfl (wm_vc mo_279 (rt := some .long) (by decide +kernel) mc_279 80 h)
-- WindBoatModel.worth()J, the place 16
set_option maxRecDepth 100000 in
set_option maxHeartbeats 8000000 in
theorem w_279_16 (μ : wm_M) (Q : Option Value → wm_M → Prop) (h : wm_OkI 0 185 [.ref 89, .int (-2 : Int32)] μ (fun r2 μ1 => Q (some (.long (r2).toInt64)) μ1)) : wm_Wp 0 279 16 [.ref 89, .null, .null] μ Q := wm_vc mo_279 (rt := some .long) (by decide +kernel) mc_279 80 h
-- WindBoatModel.worth()J, the place 24
set_option maxRecDepth 100000 in
set_option maxHeartbeats 8000000 in
theorem w_279_24 (μ : wm_M) (Q : Option Value → wm_M → Prop) (h : wm_OkV 0 268 [.ref 89] μ (fun μ1 => (((1 : Int32) = 0 ∨ (1 : Int32) = 1) ∧ wm_OkJ 0 276 [.ref 89, .int (0 : Int32)] (wm_si μ1 89 37 (1 : Int32)) (fun r3 μ2 => (((0 : Int32) = 0 ∨ (0 : Int32) = 1) ∧ wm_OkJ 0 276 [.ref 89, .int (0 : Int32)] (wm_si μ2 89 37 (0 : Int32)) (fun r5 μ4 => Q (some (.long (r3 - r5))) μ4)))))) : wm_Wp 0 279 24 [.ref 89, .null, .null] μ Q := wm_vc mo_279 (rt := some .long) (by decide +kernel) mc_279 80 h
-- WindBoatModel.rival(III)I
set_option maxRecDepth 100000 in
set_option maxHeartbeats 8000000 in
theorem v_280 (a1 : Int32) (a2 : Int32) (a3 : Int32) (μ : wm_M) (Q : Option Value → wm_M → Prop) (h : wm_OkI 0 184 [.int a1, .int (0 : Int32), .int (5 : Int32)] μ (fun r2 μ1 => ((r2 = (0 : Int32) → wm_Wp 0 280 16 [.ref 89, .null, .null, .null, .null] μ1 Q) ∧ (¬ r2 = (0 : Int32) → wm_OkI 0 262 [.int a2] μ1 (fun r4 μ3 => ((r4 = (0 : Int32) → wm_Wp 0 280 16 [.ref 89, .null, .null, .null, .null] μ3 Q) ∧ (¬ r4 = (0 : Int32) → wm_Wp 0 280 23 [.ref 89, .int a1, .int a2, .int a3, .null] μ3 Q))))))) : wm_Ok 0 280 [.ref 89, .int a1, .int a2, .int a3] μ Q := wm_ent (nL := 5) (l := [.ref 89, .int a1, .int a2, .int a3, .null]) (by decide +kernel) (by decide +kernel) (by decide +kernel) rfl rfl (wm_vc mo_280 (rt := some .int) (by decide +kernel) mc_280 110 h)
-- WindBoatModel.rival(III)I, the place 16
set_option maxRecDepth 100000 in
set_option maxHeartbeats 8000000 in
theorem w_280_16 (μ : wm_M) (Q : Option Value → wm_M → Prop) (h : wm_OkI 0 185 [.ref 89, .int (-3 : Int32)] μ (fun r2 μ1 => Q (some (.int r2)) μ1)) : wm_Wp 0 280 16 [.ref 89, .null, .null, .null, .null] μ Q := wm_vc mo_280 (rt := some .int) (by decide +kernel) mc_280 110 h
-- WindBoatModel.rival(III)I, the place 23
set_option maxRecDepth 100000 in
set_option maxHeartbeats 8000000 in
theorem w_280_23 (x1 : Int32) (x2 : Int32) (x3 : Int32) (μ : wm_M) (Q : Option Value → wm_M → Prop) (h : wm_OkI 0 184 [.int x3, .int (0 : Int32), .int (999 : Int32)] μ (fun r2 μ1 => ((r2 = (0 : Int32) → wm_OkI 0 185 [.ref 89, .int (-7 : Int32)] μ1 (fun r4 μ3 => Q (some (.int r4)) μ3)) ∧ (¬ r2 = (0 : Int32) → wm_Wp 0 280 41 [.ref 89, .int x1, .int x2, .int x3, .null] μ1 Q)))) : wm_Wp 0 280 23 [.ref 89, .int x1, .int x2, .int x3, .null] μ Q := wm_vc mo_280 (rt := some .int) (by decide +kernel) mc_280 110 h
-- WindBoatModel.rival(III)I, the place 41
set_option maxRecDepth 100000 in
set_option maxHeartbeats 8000000 in
theorem w_280_41 (x1 : Int32) (x2 : Int32) (x3 : Int32) (μ : wm_M) (Q : Option Value → wm_M → Prop) (h : (vp_in (((2004 : Int32) + ((6 : Int32) * x1)) + x2) 2060 ∧ (vp_in (((2004 : Int32) + ((6 : Int32) * x1)) + x2) 2060 ∧ Q (some (.int (μ.1 91 ((((2004 : Int32) + ((6 : Int32) * x1)) + x2)).toNatClampNeg))) (wm_si μ 91 ((((2004 : Int32) + ((6 : Int32) * x1)) + x2)).toNatClampNeg x3)))) : wm_Wp 0 280 41 [.ref 89, .int x1, .int x2, .int x3, .null] μ Q := wm_vc mo_280 (rt := some .int) (by decide +kernel) mc_280 110 h
-- WindBoatModel.a(II)J
set_option maxRecDepth 100000 in
set_option maxHeartbeats 8000000 in
theorem v_281 (a1 : Int32) (a2 : Int32) (μ : wm_M) (Q : Option Value → wm_M → Prop) (h : (vp_in (((μ.1 89 39) * a1) + a2) 12 ∧ Q (some (.long ((μ.1 111 ((((μ.1 89 39) * a1) + a2)).toNatClampNeg)).toInt64)) μ)) : wm_Ok 0 281 [.ref 89, .int a1, .int a2] μ Q := wm_ent (nL := 3) (l := [.ref 89, .int a1, .int a2]) (by decide +kernel) (by decide +kernel) (by decide +kernel) rfl rfl (wm_vc mo_281 (rt := some .long) (by decide +kernel) mc_281 42 h)
-- WindBoatModel.down(JJ)J
set_option maxRecDepth 100000 in
set_option maxHeartbeats 8000000 in
theorem v_282 (a0 : Int64) (a2 : Int64) (μ : wm_M) (Q : Option Value → wm_M → Prop) (h : (((lg_cmp a0 (0 : Int64)) < (0 : Int32) → wm_Wp 0 282 12 [.long a0, .null, .long a2, .null] μ Q) ∧ (¬ (lg_cmp a0 (0 : Int64)) < (0 : Int32) → (¬ a2 = 0 ∧ Q (some (.long (a0 / a2))) μ)))) : wm_Ok 0 282 [.long a0, .long a2] μ Q := wm_ent (nL := 4) (l := [.long a0, .null, .long a2, .null]) (by decide +kernel) (by decide +kernel) (by decide +kernel) rfl rfl (wm_vc mo_282 (rt := some .long) (by decide +kernel) mc_282 56 h)
-- WindBoatModel.down(JJ)J, the place 12
set_option maxRecDepth 100000 in
set_option maxHeartbeats 8000000 in
theorem w_282_12 (x0 : Int64) (x2 : Int64) (μ : wm_M) (Q : Option Value → wm_M → Prop) (h : (¬ x2 = 0 ∧ Q (some (.long (-((((-x0) + x2) - (1 : Int64)) / x2)))) μ)) : wm_Wp 0 282 12 [.long x0, .null, .long x2, .null] μ Q := wm_vc mo_282 (rt := some .long) (by decide +kernel) mc_282 56 h
-- WindBoatModel.isAnswer()Z
set_option maxRecDepth 100000 in
set_option maxHeartbeats 8000000 in
theorem v_283 (μ : wm_M) (Q : Option Value → wm_M → Prop) (h : (((lg_cmp (μ.2 89 41) (0 : Int64)) = (0 : Int32) → (((0 : Int32) = 0 ∨ (0 : Int32) = 1) ∧ Q (some (.int (0 : Int32))) μ)) ∧ (¬ (lg_cmp (μ.2 89 41) (0 : Int64)) = (0 : Int32) → wm_Wp 0 283 11 [.ref 89, .null, .null, .null, .null, .null, .null] μ Q))) : wm_Ok 0 283 [.ref 89] μ Q := wm_ent (nL := 7) (l := [.ref 89, .null, .null, .null, .null, .null, .null]) (by decide +kernel) (by decide +kernel) (by decide +kernel) rfl rfl (wm_vc mo_283 (rt := some .boolean) (by decide +kernel) mc_283 262 h)
-- WindBoatModel.isAnswer()Z, the place 11
set_option maxRecDepth 100000 in
set_option maxHeartbeats 8000000 in
theorem w_283_11 (μ : wm_M) (Q : Option Value → wm_M → Prop) (h : (((0 : Int32) ≤ (lg_cmp (μ.2 89 41) (0 : Int64)) → wm_Wp 0 283 77 [.ref 89, .null, .null, .null, .null, .null, .null] μ Q) ∧ (¬ (0 : Int32) ≤ (lg_cmp (μ.2 89 41) (0 : Int64)) → wm_Wp 0 283 40 [.ref 89, .int (0 : Int32), .null, .null, .null, .null, .null] (wm_sl (wm_sl μ 89 41 (-(μ.2 89 41))) 89 40 (-((wm_sl μ 89 41 (-(μ.2 89 41))).2 89 40))) Q))) : wm_Wp 0 283 11 [.ref 89, .null, .null, .null, .null, .null, .null] μ Q := wm_vc mo_283 (rt := some .boolean) (by decide +kernel) mc_283 262 h
-- WindBoatModel.isAnswer()Z, the place 40
set_option maxRecDepth 100000 in
set_option maxHeartbeats 8000000 in
theorem w_283_40 (x1 : Int32) (μ : wm_M) (Q : Option Value → wm_M → Prop) (h : (((3 : Int32) ≤ x1 → wm_Wp 0 283 77 [.ref 89, .null, .null, .null, .null, .null, .null] μ Q) ∧ (¬ (3 : Int32) ≤ x1 → (vp_in x1 3 ∧ (vp_in x1 3 ∧ (vp_in x1 3 ∧ (vp_in x1 3 ∧ wm_Wp 0 283 40 [.ref 89, .int (x1 + (1 : Int32)), .null, .null, .null, .null, .null] (wm_sl (wm_sl μ 107 (x1).toNatClampNeg (-(μ.2 107 (x1).toNatClampNeg))) 108 (x1).toNatClampNeg (-((wm_sl μ 107 (x1).toNatClampNeg (-(μ.2 107 (x1).toNatClampNeg))).2 108 (x1).toNatClampNeg))) Q))))))) : wm_Wp 0 283 40 [.ref 89, .int x1, .null, .null, .null, .null, .null] μ Q := wm_vc mo_283 (rt := some .boolean) (by decide +kernel) mc_283 262 h
-- WindBoatModel.isAnswer()Z, the place 77
set_option maxRecDepth 100000 in
set_option maxHeartbeats 8000000 in
theorem w_283_77 (μ : wm_M) (Q : Option Value → wm_M → Prop) (h : wm_Wp 0 283 79 [.ref 89, .int (0 : Int32), .null, .null, .null, .null, .null] μ Q) : wm_Wp 0 283 77 [.ref 89, .null, .null, .null, .null, .null, .null] μ Q := wm_vc mo_283 (rt := some .boolean) (by decide +kernel) mc_283 262 h
-- WindBoatModel.isAnswer()Z, the place 79
set_option maxRecDepth 100000 in
set_option maxHeartbeats 8000000 in
theorem w_283_79 (x1 : Int32) (μ : wm_M) (Q : Option Value → wm_M → Prop) (h : (((μ.1 89 39) ≤ x1 → wm_Wp 0 283 199 [.null, .null, .null, .null, .null, .null, .null] μ Q) ∧ (¬ (μ.1 89 39) ≤ x1 → (vp_in x1 3 ∧ (((lg_cmp (μ.2 107 (x1).toNatClampNeg) (0 : Int64)) < (0 : Int32) → wm_Wp 0 283 109 [.null, .null, .null, .null, .null, .null, .null] μ Q) ∧ (¬ (lg_cmp (μ.2 107 (x1).toNatClampNeg) (0 : Int64)) < (0 : Int32) → (vp_in x1 3 ∧ (((0 : Int32) ≤ (lg_cmp (μ.2 108 (x1).toNatClampNeg) (0 : Int64)) → wm_Wp 0 283 111 [.ref 89, .int x1, .null, .null, .null, .null, .null] μ Q) ∧ (¬ (0 : Int32) ≤ (lg_cmp (μ.2 108 (x1).toNatClampNeg) (0 : Int64)) → wm_Wp 0 283 109 [.null, .null, .null, .null, .null, .null, .null] μ Q))))))))) : wm_Wp 0 283 79 [.ref 89, .int x1, .null, .null, .null, .null, .null] μ Q := wm_vc mo_283 (rt := some .boolean) (by decide +kernel) mc_283 262 h
-- WindBoatModel.isAnswer()Z, the place 109
set_option maxRecDepth 100000 in
set_option maxHeartbeats 8000000 in
theorem w_283_109 (μ : wm_M) (Q : Option Value → wm_M → Prop) (h : (((0 : Int32) = 0 ∨ (0 : Int32) = 1) ∧ Q (some (.int (0 : Int32))) μ)) : wm_Wp 0 283 109 [.null, .null, .null, .null, .null, .null, .null] μ Q := wm_vc mo_283 (rt := some .boolean) (by decide +kernel) mc_283 262 h
-- WindBoatModel.isAnswer()Z, the place 111
set_option maxRecDepth 100000 in
set_option maxHeartbeats 8000000 in
theorem w_283_111 (x1 : Int32) (μ : wm_M) (Q : Option Value → wm_M → Prop) (h : wm_Wp 0 283 119 [.ref 89, .int x1, .long (0 : Int64), .null, .long (0 : Int64), .null, .int (0 : Int32)] μ Q) : wm_Wp 0 283 111 [.ref 89, .int x1, .null, .null, .null, .null, .null] μ Q := wm_vc mo_283 (rt := some .boolean) (by decide +kernel) mc_283 262 h
-- WindBoatModel.isAnswer()Z, the place 119
set_option maxRecDepth 100000 in
set_option maxHeartbeats 8000000 in
theorem w_283_119 (x1 : Int32) (x2 : Int64) (x4 : Int64) (x6 : Int32) (μ : wm_M) (Q : Option Value → wm_M → Prop) (h : (((μ.1 89 39) ≤ x6 → wm_Wp 0 283 172 [.ref 89, .int x1, .long x2, .null, .long x4, .null, .null] μ Q) ∧ (¬ (μ.1 89 39) ≤ x6 → (vp_in x6 3 ∧ wm_OkJ 0 281 [.ref 89, .int x6, .int x1] μ (fun r2 μ1 => (vp_in x6 3 ∧ wm_OkJ 0 281 [.ref 89, .int x1, .int x6] μ1 (fun r4 μ3 => wm_Wp 0 283 119 [.ref 89, .int x1, .long (x2 + ((μ.2 107 (x6).toNatClampNeg) * r2)), .null, .long (x4 + ((μ1.2 108 (x6).toNatClampNeg) * r4)), .null, .int (x6 + (1 : Int32))] μ3 Q))))))) : wm_Wp 0 283 119 [.ref 89, .int x1, .long x2, .null, .long x4, .null, .int x6] μ Q := wm_vc mo_283 (rt := some .boolean) (by decide +kernel) mc_283 262 h
-- WindBoatModel.isAnswer()Z, the place 172
set_option maxRecDepth 100000 in
set_option maxHeartbeats 8000000 in
theorem w_283_172 (x1 : Int32) (x2 : Int64) (x4 : Int64) (μ : wm_M) (Q : Option Value → wm_M → Prop) (h : (((lg_cmp x2 (μ.2 89 40)) < (0 : Int32) → wm_Wp 0 283 191 [.null, .null, .null, .null, .null, .null, .null] μ Q) ∧ (¬ (lg_cmp x2 (μ.2 89 40)) < (0 : Int32) → (((lg_cmp x4 (μ.2 89 40)) ≤ (0 : Int32) → wm_Wp 0 283 193 [.ref 89, .int x1, .null, .null, .null, .null, .null] μ Q) ∧ (¬ (lg_cmp x4 (μ.2 89 40)) ≤ (0 : Int32) → wm_Wp 0 283 191 [.null, .null, .null, .null, .null, .null, .null] μ Q))))) : wm_Wp 0 283 172 [.ref 89, .int x1, .long x2, .null, .long x4, .null, .null] μ Q := wm_vc mo_283 (rt := some .boolean) (by decide +kernel) mc_283 262 h
-- WindBoatModel.isAnswer()Z, the place 191
set_option maxRecDepth 100000 in
set_option maxHeartbeats 8000000 in
theorem w_283_191 (μ : wm_M) (Q : Option Value → wm_M → Prop) (h : (((0 : Int32) = 0 ∨ (0 : Int32) = 1) ∧ Q (some (.int (0 : Int32))) μ)) : wm_Wp 0 283 191 [.null, .null, .null, .null, .null, .null, .null] μ Q := wm_vc mo_283 (rt := some .boolean) (by decide +kernel) mc_283 262 h
-- WindBoatModel.isAnswer()Z, the place 193
set_option maxRecDepth 100000 in
set_option maxHeartbeats 8000000 in
theorem w_283_193 (x1 : Int32) (μ : wm_M) (Q : Option Value → wm_M → Prop) (h : wm_Wp 0 283 79 [.ref 89, .int (x1 + (1 : Int32)), .null, .null, .null, .null, .null] μ Q) : wm_Wp 0 283 193 [.ref 89, .int x1, .null, .null, .null, .null, .null] μ Q := wm_vc mo_283 (rt := some .boolean) (by decide +kernel) mc_283 262 h
-- WindBoatModel.isAnswer()Z, the place 199
set_option maxRecDepth 100000 in
set_option maxHeartbeats 8000000 in
theorem w_283_199 (μ : wm_M) (Q : Option Value → wm_M → Prop) (h : (((1 : Int32) = 0 ∨ (1 : Int32) = 1) ∧ Q (some (.int (1 : Int32))) μ)) : wm_Wp 0 283 199 [.null, .null, .null, .null, .null, .null, .null] μ Q := wm_vc mo_283 (rt := some .boolean) (by decide +kernel) mc_283 262 h
-- WindBoatModel.noShares()V
set_option maxRecDepth 100000 in
set_option maxHeartbeats 8000000 in
theorem v_284 (μ : wm_M) (Q : Option Value → wm_M → Prop) (h : wm_Wp 0 284 2 [.ref 89, .int (0 : Int32)] μ Q) : wm_Ok 0 284 [.ref 89] μ Q := wm_ent (nL := 2) (l := [.ref 89, .null]) (by decide +kernel) (by decide +kernel) (by decide +kernel) rfl rfl (wm_vc mo_284 (rt := none) (by decide +kernel) mc_284 56 h)
-- WindBoatModel.noShares()V, the place 2
set_option maxRecDepth 100000 in
set_option maxHeartbeats 8000000 in
theorem w_284_2 (x1 : Int32) (μ : wm_M) (Q : Option Value → wm_M → Prop) (h : (((3 : Int32) ≤ x1 → wm_Wp 0 284 27 [.null, .null] μ Q) ∧ (¬ (3 : Int32) ≤ x1 → (vp_in x1 3 ∧ (vp_in x1 3 ∧ wm_Wp 0 284 2 [.ref 89, .int (x1 + (1 : Int32))] (wm_sl (wm_sl μ 107 (x1).toNatClampNeg (0 : Int64)) 108 (x1).toNatClampNeg (0 : Int64)) Q))))) : wm_Wp 0 284 2 [.ref 89, .int x1] μ Q := wm_vc mo_284 (rt := none) (by decide +kernel) mc_284 56 h
-- WindBoatModel.noShares()V, the place 27
set_option maxRecDepth 100000 in
set_option maxHeartbeats 8000000 in
theorem w_284_27 (μ : wm_M) (Q : Option Value → wm_M → Prop) (h : Q none μ) : wm_Wp 0 284 27 [.null, .null] μ Q := wm_vc mo_284 (rt := none) (by decide +kernel) mc_284 56 h
-- WindBoatModel.byOne(II)Z
set_option maxRecDepth 100000 in
set_option maxHeartbeats 8000000 in
theorem v_285 (a1 : Int32) (a2 : Int32) (μ : wm_M) (Q : Option Value → wm_M → Prop) (h : wm_OkV 0 284 [.ref 89] μ (fun μ1 => (vp_in a1 3 ∧ (vp_in a2 3 ∧ wm_OkJ 0 281 [.ref 89, .int a1, .int a2] (wm_sl (wm_sl μ1 107 (a1).toNatClampNeg (1 : Int64)) 108 (a2).toNatClampNeg (1 : Int64)) (fun r3 μ2 => wm_OkI 0 283 [.ref 89] (wm_sl (wm_sl μ2 89 40 r3) 89 41 (1 : Int64)) (fun r5 μ4 => ((r5 = 0 ∨ r5 = 1) ∧ Q (some (.int r5)) μ4))))))) : wm_Ok 0 285 [.ref 89, .int a1, .int a2] μ Q := wm_ent (nL := 3) (l := [.ref 89, .int a1, .int a2]) (by decide +kernel) (by decide +kernel) (by decide +kernel) rfl rfl (wm_vc mo_285 (rt := some .boolean) (by decide +kernel) mc_285 68 h)
