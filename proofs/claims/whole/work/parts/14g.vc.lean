/-! ===== what each block of code asks (printed by wip/gen/genvc.py) ===== -/
-- WindBoatModel.speedBy(ZII)I
set_option maxRecDepth 100000 in
set_option maxHeartbeats 8000000 in
theorem f_206 (a1 : Int32) (a2 : Int32) (a3 : Int32) (μ : wm_M) (Q : Option Value → wm_M → Prop) (h : ((a1 = (0 : Int32) → wm_Wp 0 206 52 [.ref 89, .null, .null, .null, .int (((5 : Int32) * a2) + a3)] μ Q) ∧ (¬ a1 = (0 : Int32) → (vp_in ((349 : Int32) + (((5 : Int32) * a2) + a3)) 2060 ∧ (((μ.1 91 (((349 : Int32) + (((5 : Int32) * a2) + a3))).toNatClampNeg) < (3 : Int32) → wm_Wp 0 206 52 [.ref 89, .null, .null, .null, .int (((5 : Int32) * a2) + a3)] μ Q) ∧ (¬ (μ.1 91 (((349 : Int32) + (((5 : Int32) * a2) + a3))).toNatClampNeg) < (3 : Int32) → wm_Wp 0 206 26 [.ref 89, .null, .null, .null, .int (((5 : Int32) * a2) + a3)] μ Q)))))) : wm_Ok 0 206 [.ref 89, .int a1, .int a2, .int a3] μ Q := wm_ent (nL := 5) (l := [.ref 89, .int a1, .int a2, .int a3, .null]) (by decide +kernel) (by decide +kernel) (by decide +kernel) rfl rfl (wm_vc mo_206 (rt := some .int) (by decide +kernel) mc_206 94 h)
-- WindBoatModel.speedBy(ZII)I, the place 26
set_option maxRecDepth 100000 in
set_option maxHeartbeats 8000000 in
theorem f_206_26 (x4 : Int32) (μ : wm_M) (Q : Option Value → wm_M → Prop) (h : (vp_in ((374 : Int32) + x4) 2060 ∧ (vp_in ((349 : Int32) + x4) 2060 ∧ (¬ (μ.1 91 (((349 : Int32) + x4)).toNatClampNeg) = 0 ∧ Q (some (.int ((μ.1 91 (((374 : Int32) + x4)).toNatClampNeg) / (μ.1 91 (((349 : Int32) + x4)).toNatClampNeg)))) μ)))) : wm_Wp 0 206 26 [.ref 89, .null, .null, .null, .int x4] μ Q := wm_vc mo_206 (rt := some .int) (by decide +kernel) mc_206 94 h
-- WindBoatModel.speedBy(ZII)I, the place 52
set_option maxRecDepth 100000 in
set_option maxHeartbeats 8000000 in
theorem f_206_52 (x4 : Int32) (μ : wm_M) (Q : Option Value → wm_M → Prop) (h : (vp_in ((324 : Int32) + x4) 2060 ∧ Q (some (.int (μ.1 91 (((324 : Int32) + x4)).toNatClampNeg))) μ)) : wm_Wp 0 206 52 [.ref 89, .null, .null, .null, .int x4] μ Q := wm_vc mo_206 (rt := some .int) (by decide +kernel) mc_206 94 h
-- WindBoatModel.table(III)I
set_option maxRecDepth 100000 in
set_option maxHeartbeats 8000000 in
theorem f_207 (a1 : Int32) (a2 : Int32) (a3 : Int32) (μ : wm_M) (Q : Option Value → wm_M → Prop) (h : wm_OkI 0 203 [.int a1, .int a2] μ (fun r2 μ1 => ((r2 = (0 : Int32) → wm_Wp 0 207 8 [.ref 89, .null, .null, .null, .null] μ1 Q) ∧ (¬ r2 = (0 : Int32) → wm_Wp 0 207 15 [.ref 89, .int a1, .int a2, .int a3, .null] μ1 Q)))) : wm_Ok 0 207 [.ref 89, .int a1, .int a2, .int a3] μ Q := wm_ent (nL := 5) (l := [.ref 89, .int a1, .int a2, .int a3, .null]) (by decide +kernel) (by decide +kernel) (by decide +kernel) rfl rfl (wm_vc mo_207 (rt := some .int) (by decide +kernel) mc_207 164 h)
-- WindBoatModel.table(III)I, the place 8
set_option maxRecDepth 100000 in
set_option maxHeartbeats 8000000 in
theorem f_207_8 (μ : wm_M) (Q : Option Value → wm_M → Prop) (h : wm_OkI 0 185 [.ref 89, .int (-3 : Int32)] μ (fun r2 μ1 => Q (some (.int r2)) μ1)) : wm_Wp 0 207 8 [.ref 89, .null, .null, .null, .null] μ Q := wm_vc mo_207 (rt := some .int) (by decide +kernel) mc_207 164 h
-- WindBoatModel.table(III)I, the place 15
set_option maxRecDepth 100000 in
set_option maxHeartbeats 8000000 in
theorem f_207_15 (x1 : Int32) (x2 : Int32) (x3 : Int32) (μ : wm_M) (Q : Option Value → wm_M → Prop) (h : (((x3).toInt < 0 ∨ 4 < (x3).toInt → wm_Wp 0 207 148 [.ref 89, .null, .null, .null, .null] μ Q) ∧ (((x3).toInt = 0 → wm_Wp 0 207 56 [.ref 89, .null, .null, .null, .int (((5 : Int32) * x1) + x2)] μ Q) ∧ (((x3).toInt = 1 → wm_Wp 0 207 68 [.ref 89, .int x1, .int x2, .null, .null] μ Q) ∧ (((x3).toInt = 2 → wm_Wp 0 207 76 [.ref 89, .null, .null, .null, .int (((5 : Int32) * x1) + x2)] μ Q) ∧ (((x3).toInt = 3 → wm_Wp 0 207 88 [.ref 89, .null, .null, .null, .int (((5 : Int32) * x1) + x2)] μ Q) ∧ (((x3).toInt = 4 → wm_Wp 0 207 118 [.ref 89, .null, .null, .null, .int (((5 : Int32) * x1) + x2)] μ Q) ∧ True))))))) : wm_Wp 0 207 15 [.ref 89, .int x1, .int x2, .int x3, .null] μ Q := wm_vc mo_207 (rt := some .int) (by decide +kernel) mc_207 164 h
-- WindBoatModel.table(III)I, the place 56
set_option maxRecDepth 100000 in
set_option maxHeartbeats 8000000 in
theorem f_207_56 (x4 : Int32) (μ : wm_M) (Q : Option Value → wm_M → Prop) (h : (vp_in ((324 : Int32) + x4) 2060 ∧ Q (some (.int (μ.1 91 (((324 : Int32) + x4)).toNatClampNeg))) μ)) : wm_Wp 0 207 56 [.ref 89, .null, .null, .null, .int x4] μ Q := wm_vc mo_207 (rt := some .int) (by decide +kernel) mc_207 164 h
-- WindBoatModel.table(III)I, the place 68
set_option maxRecDepth 100000 in
set_option maxHeartbeats 8000000 in
theorem f_207_68 (x1 : Int32) (x2 : Int32) (μ : wm_M) (Q : Option Value → wm_M → Prop) (h : wm_OkI 0 206 [.ref 89, .int (1 : Int32), .int x1, .int x2] μ (fun r2 μ1 => Q (some (.int r2)) μ1)) : wm_Wp 0 207 68 [.ref 89, .int x1, .int x2, .null, .null] μ Q := wm_vc mo_207 (rt := some .int) (by decide +kernel) mc_207 164 h
-- WindBoatModel.table(III)I, the place 76
set_option maxRecDepth 100000 in
set_option maxHeartbeats 8000000 in
theorem f_207_76 (x4 : Int32) (μ : wm_M) (Q : Option Value → wm_M → Prop) (h : (vp_in ((349 : Int32) + x4) 2060 ∧ Q (some (.int (μ.1 91 (((349 : Int32) + x4)).toNatClampNeg))) μ)) : wm_Wp 0 207 76 [.ref 89, .null, .null, .null, .int x4] μ Q := wm_vc mo_207 (rt := some .int) (by decide +kernel) mc_207 164 h
-- WindBoatModel.table(III)I, the place 88
set_option maxRecDepth 100000 in
set_option maxHeartbeats 8000000 in
theorem f_207_88 (x4 : Int32) (μ : wm_M) (Q : Option Value → wm_M → Prop) (h : (vp_in ((349 : Int32) + x4) 2060 ∧ (((μ.1 91 (((349 : Int32) + x4)).toNatClampNeg) = (0 : Int32) → Q (some (.int (-1 : Int32))) μ) ∧ (¬ (μ.1 91 (((349 : Int32) + x4)).toNatClampNeg) = (0 : Int32) → wm_Wp 0 207 106 [.ref 89, .null, .null, .null, .int x4] μ Q)))) : wm_Wp 0 207 88 [.ref 89, .null, .null, .null, .int x4] μ Q := wm_vc mo_207 (rt := some .int) (by decide +kernel) mc_207 164 h
-- WindBoatModel.table(III)I, the place 106
set_option maxRecDepth 100000 in
set_option maxHeartbeats 8000000 in
theorem f_207_106 (x4 : Int32) (μ : wm_M) (Q : Option Value → wm_M → Prop) (h : (vp_in ((399 : Int32) + x4) 2060 ∧ Q (some (.int (μ.1 91 (((399 : Int32) + x4)).toNatClampNeg))) μ)) : wm_Wp 0 207 106 [.ref 89, .null, .null, .null, .int x4] μ Q := wm_vc mo_207 (rt := some .int) (by decide +kernel) mc_207 164 h
-- WindBoatModel.table(III)I, the place 118
set_option maxRecDepth 100000 in
set_option maxHeartbeats 8000000 in
theorem f_207_118 (x4 : Int32) (μ : wm_M) (Q : Option Value → wm_M → Prop) (h : (vp_in ((349 : Int32) + x4) 2060 ∧ (((μ.1 91 (((349 : Int32) + x4)).toNatClampNeg) = (0 : Int32) → Q (some (.int (-1 : Int32))) μ) ∧ (¬ (μ.1 91 (((349 : Int32) + x4)).toNatClampNeg) = (0 : Int32) → wm_Wp 0 207 136 [.ref 89, .null, .null, .null, .int x4] μ Q)))) : wm_Wp 0 207 118 [.ref 89, .null, .null, .null, .int x4] μ Q := wm_vc mo_207 (rt := some .int) (by decide +kernel) mc_207 164 h
-- WindBoatModel.table(III)I, the place 136
set_option maxRecDepth 100000 in
set_option maxHeartbeats 8000000 in
theorem f_207_136 (x4 : Int32) (μ : wm_M) (Q : Option Value → wm_M → Prop) (h : (vp_in ((424 : Int32) + x4) 2060 ∧ Q (some (.int (μ.1 91 (((424 : Int32) + x4)).toNatClampNeg))) μ)) : wm_Wp 0 207 136 [.ref 89, .null, .null, .null, .int x4] μ Q := wm_vc mo_207 (rt := some .int) (by decide +kernel) mc_207 164 h
-- WindBoatModel.table(III)I, the place 148
set_option maxRecDepth 100000 in
set_option maxHeartbeats 8000000 in
theorem f_207_148 (μ : wm_M) (Q : Option Value → wm_M → Prop) (h : wm_OkI 0 185 [.ref 89, .int (-7 : Int32)] μ (fun r2 μ1 => Q (some (.int r2)) μ1)) : wm_Wp 0 207 148 [.ref 89, .null, .null, .null, .null] μ Q := wm_vc mo_207 (rt := some .int) (by decide +kernel) mc_207 164 h
-- WindBoatModel.sail(I)I
set_option maxRecDepth 100000 in
set_option maxHeartbeats 8000000 in
theorem f_208 (a1 : Int32) (μ : wm_M) (Q : Option Value → wm_M → Prop) (h : wm_OkI 0 184 [.int a1, .int (0 : Int32), .int (4 : Int32)] μ (fun r2 μ1 => ((r2 = (0 : Int32) → wm_Wp 0 208 9 [.ref 89, .null] μ1 Q) ∧ (¬ r2 = (0 : Int32) → wm_Wp 0 208 16 [.ref 89, .int a1] μ1 Q)))) : wm_Ok 0 208 [.ref 89, .int a1] μ Q := wm_ent (nL := 2) (l := [.ref 89, .int a1]) (by decide +kernel) (by decide +kernel) (by decide +kernel) rfl rfl (wm_vc mo_208 (rt := some .int) (by decide +kernel) mc_208 120 h)
-- WindBoatModel.sail(I)I, the place 9
set_option maxRecDepth 100000 in
set_option maxHeartbeats 8000000 in
theorem f_208_9 (μ : wm_M) (Q : Option Value → wm_M → Prop) (h : wm_OkI 0 185 [.ref 89, .int (-7 : Int32)] μ (fun r2 μ1 => Q (some (.int r2)) μ1)) : wm_Wp 0 208 9 [.ref 89, .null] μ Q := wm_vc mo_208 (rt := some .int) (by decide +kernel) mc_208 120 h
-- WindBoatModel.sail(I)I, the place 16
set_option maxRecDepth 100000 in
set_option maxHeartbeats 8000000 in
theorem f_208_16 (x1 : Int32) (μ : wm_M) (Q : Option Value → wm_M → Prop) (h : wm_OkI 0 188 [.ref 89, .int (0 : Int32)] μ (fun r2 μ1 => ((r2 = (3 : Int32) → wm_Wp 0 208 25 [.ref 89, .null] μ1 Q) ∧ (¬ r2 = (3 : Int32) → wm_Wp 0 208 32 [.ref 89, .int x1] μ1 Q)))) : wm_Wp 0 208 16 [.ref 89, .int x1] μ Q := wm_vc mo_208 (rt := some .int) (by decide +kernel) mc_208 120 h
-- WindBoatModel.sail(I)I, the place 25
set_option maxRecDepth 100000 in
set_option maxHeartbeats 8000000 in
theorem f_208_25 (μ : wm_M) (Q : Option Value → wm_M → Prop) (h : wm_OkI 0 185 [.ref 89, .int (-8 : Int32)] μ (fun r2 μ1 => Q (some (.int r2)) μ1)) : wm_Wp 0 208 25 [.ref 89, .null] μ Q := wm_vc mo_208 (rt := some .int) (by decide +kernel) mc_208 120 h
-- WindBoatModel.sail(I)I, the place 32
set_option maxRecDepth 100000 in
set_option maxHeartbeats 8000000 in
theorem f_208_32 (x1 : Int32) (μ : wm_M) (Q : Option Value → wm_M → Prop) (h : wm_OkI 0 188 [.ref 89, .int (0 : Int32)] μ (fun r2 μ1 => (vp_in ((449 : Int32) + r2) 2060 ∧ wm_Wp 0 208 47 [.ref 89, .null] (wm_si μ1 91 (((449 : Int32) + r2)).toNatClampNeg x1) Q))) : wm_Wp 0 208 32 [.ref 89, .int x1] μ Q := wm_vc mo_208 (rt := some .int) (by decide +kernel) mc_208 120 h
-- WindBoatModel.sail(I)I, the place 47
set_option maxRecDepth 100000 in
set_option maxHeartbeats 8000000 in
theorem f_208_47 (μ : wm_M) (Q : Option Value → wm_M → Prop) (h : wm_OkI 0 188 [.ref 89, .int (0 : Int32)] μ (fun r2 μ1 => (vp_in ((452 : Int32) + r2) 2060 ∧ wm_Wp 0 208 62 [.ref 89, .null] (wm_si μ1 91 (((452 : Int32) + r2)).toNatClampNeg (0 : Int32)) Q))) : wm_Wp 0 208 47 [.ref 89, .null] μ Q := wm_vc mo_208 (rt := some .int) (by decide +kernel) mc_208 120 h
-- WindBoatModel.sail(I)I, the place 62
set_option maxRecDepth 100000 in
set_option maxHeartbeats 8000000 in
theorem f_208_62 (μ : wm_M) (Q : Option Value → wm_M → Prop) (h : (vp_in (2040 : Int32) 2060 ∧ (vp_in (2040 : Int32) 2060 ∧ wm_Wp 0 208 74 [.ref 89, .null] (wm_si μ 91 ((2040 : Int32)).toNatClampNeg ((μ.1 91 ((2040 : Int32)).toNatClampNeg) + (1 : Int32))) Q))) : wm_Wp 0 208 62 [.ref 89, .null] μ Q := wm_vc mo_208 (rt := some .int) (by decide +kernel) mc_208 120 h
-- WindBoatModel.sail(I)I, the place 74
set_option maxRecDepth 100000 in
set_option maxHeartbeats 8000000 in
theorem f_208_74 (μ : wm_M) (Q : Option Value → wm_M → Prop) (h : wm_OkI 0 188 [.ref 89, .int (0 : Int32)] μ (fun r2 μ1 => Q (some (.int (r2 - (1 : Int32)))) μ1)) : wm_Wp 0 208 74 [.ref 89, .null] μ Q := wm_vc mo_208 (rt := some .int) (by decide +kernel) mc_208 120 h
-- WindBoatModel.paceOf(III)I
set_option maxRecDepth 100000 in
set_option maxHeartbeats 8000000 in
theorem f_209 (a0 : Int32) (a1 : Int32) (a2 : Int32) (μ : wm_M) (Q : Option Value → wm_M → Prop) (h : (((a0).toInt < 1 ∨ 4 < (a0).toInt → wm_Wp 0 209 107 [.null, .null, .int a2] μ Q) ∧ (((a0).toInt = 1 → wm_Wp 0 209 32 [.null, .int a1, .int a2] μ Q) ∧ (((a0).toInt = 2 → wm_Wp 0 209 55 [.null, .int a1, .int a2] μ Q) ∧ (((a0).toInt = 3 → wm_Wp 0 209 63 [.null, .int a1, .int a2] μ Q) ∧ (((a0).toInt = 4 → wm_Wp 0 209 82 [.null, .int a1, .int a2] μ Q) ∧ True)))))) : wm_Ok 0 209 [.int a0, .int a1, .int a2] μ Q := wm_ent (nL := 3) (l := [.int a0, .int a1, .int a2]) (by decide +kernel) (by decide +kernel) (by decide +kernel) rfl rfl (wm_vc mo_209 (rt := some .int) (by decide +kernel) mc_209 130 h)
-- WindBoatModel.paceOf(III)I, the place 32
set_option maxRecDepth 100000 in
set_option maxHeartbeats 8000000 in
theorem f_209_32 (x1 : Int32) (x2 : Int32) (μ : wm_M) (Q : Option Value → wm_M → Prop) (h : (((3 : Int32) ≤ x1 → wm_Wp 0 209 47 [.null, .null, .int x2] μ Q) ∧ (¬ (3 : Int32) ≤ x1 → (¬ (10 : Int32) = 0 ∧ Q (some (.int (((11 : Int32) * x2) / (10 : Int32)))) μ)))) : wm_Wp 0 209 32 [.null, .int x1, .int x2] μ Q := wm_vc mo_209 (rt := some .int) (by decide +kernel) mc_209 130 h
-- WindBoatModel.paceOf(III)I, the place 47
set_option maxRecDepth 100000 in
set_option maxHeartbeats 8000000 in
theorem f_209_47 (x2 : Int32) (μ : wm_M) (Q : Option Value → wm_M → Prop) (h : (¬ (10 : Int32) = 0 ∧ Q (some (.int (((9 : Int32) * x2) / (10 : Int32)))) μ)) : wm_Wp 0 209 47 [.null, .null, .int x2] μ Q := wm_vc mo_209 (rt := some .int) (by decide +kernel) mc_209 130 h
-- WindBoatModel.paceOf(III)I, the place 55
set_option maxRecDepth 100000 in
set_option maxHeartbeats 8000000 in
theorem f_209_55 (x1 : Int32) (x2 : Int32) (μ : wm_M) (Q : Option Value → wm_M → Prop) (h : wm_OkI 0 210 [.int x1, .int x2] μ (fun r2 μ1 => (¬ (2 : Int32) = 0 ∧ Q (some (.int (r2 / (2 : Int32)))) μ1))) : wm_Wp 0 209 55 [.null, .int x1, .int x2] μ Q := wm_vc mo_209 (rt := some .int) (by decide +kernel) mc_209 130 h
-- WindBoatModel.paceOf(III)I, the place 63
set_option maxRecDepth 100000 in
set_option maxHeartbeats 8000000 in
theorem f_209_63 (x1 : Int32) (x2 : Int32) (μ : wm_M) (Q : Option Value → wm_M → Prop) (h : ((x1 ≤ (2 : Int32) → wm_Wp 0 209 78 [.null, .null, .int x2] μ Q) ∧ (¬ x1 ≤ (2 : Int32) → (¬ (10 : Int32) = 0 ∧ Q (some (.int (((12 : Int32) * x2) / (10 : Int32)))) μ)))) : wm_Wp 0 209 63 [.null, .int x1, .int x2] μ Q := wm_vc mo_209 (rt := some .int) (by decide +kernel) mc_209 130 h
-- WindBoatModel.paceOf(III)I, the place 78
set_option maxRecDepth 100000 in
set_option maxHeartbeats 8000000 in
theorem f_209_78 (x2 : Int32) (μ : wm_M) (Q : Option Value → wm_M → Prop) (h : (¬ (2 : Int32) = 0 ∧ Q (some (.int (x2 / (2 : Int32)))) μ)) : wm_Wp 0 209 78 [.null, .null, .int x2] μ Q := wm_vc mo_209 (rt := some .int) (by decide +kernel) mc_209 130 h
-- WindBoatModel.paceOf(III)I, the place 82
set_option maxRecDepth 100000 in
set_option maxHeartbeats 8000000 in
theorem f_209_82 (x1 : Int32) (x2 : Int32) (μ : wm_M) (Q : Option Value → wm_M → Prop) (h : ((x1 ≤ (2 : Int32) → (¬ (2 : Int32) = 0 ∧ (¬ (10 : Int32) = 0 ∧ Q (some (.int (((13 : Int32) * (x2 / (2 : Int32))) / (10 : Int32)))) μ))) ∧ (¬ x1 ≤ (2 : Int32) → (¬ (10 : Int32) = 0 ∧ (¬ (10 : Int32) = 0 ∧ Q (some (.int (((13 : Int32) * (((12 : Int32) * x2) / (10 : Int32))) / (10 : Int32)))) μ))))) : wm_Wp 0 209 82 [.null, .int x1, .int x2] μ Q := wm_vc mo_209 (rt := some .int) (by decide +kernel) mc_209 130 h
-- WindBoatModel.paceOf(III)I, the place 107
set_option maxRecDepth 100000 in
set_option maxHeartbeats 8000000 in
theorem f_209_107 (x2 : Int32) (μ : wm_M) (Q : Option Value → wm_M → Prop) (h : Q (some (.int x2)) μ) : wm_Wp 0 209 107 [.null, .null, .int x2] μ Q := wm_vc mo_209 (rt := some .int) (by decide +kernel) mc_209 130 h
-- WindBoatModel.paceOf2(II)I
set_option maxRecDepth 100000 in
set_option maxHeartbeats 8000000 in
theorem f_210 (a0 : Int32) (a1 : Int32) (μ : wm_M) (Q : Option Value → wm_M → Prop) (h : (((3 : Int32) ≤ a0 → wm_Wp 0 210 15 [.null, .int a1] μ Q) ∧ (¬ (3 : Int32) ≤ a0 → (¬ (10 : Int32) = 0 ∧ Q (some (.int (((11 : Int32) * a1) / (10 : Int32)))) μ)))) : wm_Ok 0 210 [.int a0, .int a1] μ Q := wm_ent (nL := 2) (l := [.int a0, .int a1]) (by decide +kernel) (by decide +kernel) (by decide +kernel) rfl rfl (wm_vc mo_210 (rt := some .int) (by decide +kernel) mc_210 50 h)
-- WindBoatModel.paceOf2(II)I, the place 15
set_option maxRecDepth 100000 in
set_option maxHeartbeats 8000000 in
theorem f_210_15 (x1 : Int32) (μ : wm_M) (Q : Option Value → wm_M → Prop) (h : (¬ (10 : Int32) = 0 ∧ Q (some (.int (((9 : Int32) * x1) / (10 : Int32)))) μ)) : wm_Wp 0 210 15 [.null, .int x1] μ Q := wm_vc mo_210 (rt := some .int) (by decide +kernel) mc_210 50 h
-- WindBoatModel.holdsOf(I)I
set_option maxRecDepth 100000 in
set_option maxHeartbeats 8000000 in
theorem f_211 (a0 : Int32) (μ : wm_M) (Q : Option Value → wm_M → Prop) (h : ((a0 = (1 : Int32) → Q (some (.int (28 : Int32))) μ) ∧ (¬ a0 = (1 : Int32) → wm_Wp 0 211 10 [.int a0] μ Q))) : wm_Ok 0 211 [.int a0] μ Q := wm_ent (nL := 1) (l := [.int a0]) (by decide +kernel) (by decide +kernel) (by decide +kernel) rfl rfl (wm_vc mo_211 (rt := some .int) (by decide +kernel) mc_211 64 h)
-- WindBoatModel.holdsOf(I)I, the place 10
set_option maxRecDepth 100000 in
set_option maxHeartbeats 8000000 in
theorem f_211_10 (x0 : Int32) (μ : wm_M) (Q : Option Value → wm_M → Prop) (h : ((x0 = (2 : Int32) → Q (some (.int (39 : Int32))) μ) ∧ (¬ x0 = (2 : Int32) → wm_Wp 0 211 20 [.int x0] μ Q))) : wm_Wp 0 211 10 [.int x0] μ Q := wm_vc mo_211 (rt := some .int) (by decide +kernel) mc_211 64 h
-- WindBoatModel.holdsOf(I)I, the place 20
set_option maxRecDepth 100000 in
set_option maxHeartbeats 8000000 in
theorem f_211_20 (x0 : Int32) (μ : wm_M) (Q : Option Value → wm_M → Prop) (h : ((x0 = (3 : Int32) → Q (some (.int (20 : Int32))) μ) ∧ (¬ x0 = (3 : Int32) → wm_Wp 0 211 30 [.int x0] μ Q))) : wm_Wp 0 211 20 [.int x0] μ Q := wm_vc mo_211 (rt := some .int) (by decide +kernel) mc_211 64 h
-- WindBoatModel.holdsOf(I)I, the place 30
set_option maxRecDepth 100000 in
set_option maxHeartbeats 8000000 in
theorem f_211_30 (x0 : Int32) (μ : wm_M) (Q : Option Value → wm_M → Prop) (h : ((x0 = (4 : Int32) → Q (some (.int (16 : Int32))) μ) ∧ (¬ x0 = (4 : Int32) → wm_Wp 0 211 40 [.null] μ Q))) : wm_Wp 0 211 30 [.int x0] μ Q := wm_vc mo_211 (rt := some .int) (by decide +kernel) mc_211 64 h
-- WindBoatModel.holdsOf(I)I, the place 40
set_option maxRecDepth 100000 in
set_option maxHeartbeats 8000000 in
theorem f_211_40 (μ : wm_M) (Q : Option Value → wm_M → Prop) (h : Q (some (.int (24 : Int32))) μ) : wm_Wp 0 211 40 [.null] μ Q := wm_vc mo_211 (rt := some .int) (by decide +kernel) mc_211 64 h
-- WindBoatModel.holds(I)I
set_option maxRecDepth 100000 in
set_option maxHeartbeats 8000000 in
theorem f_212 (a1 : Int32) (μ : wm_M) (Q : Option Value → wm_M → Prop) (h : (vp_in ((449 : Int32) + a1) 2060 ∧ wm_OkI 0 211 [.int (μ.1 91 (((449 : Int32) + a1)).toNatClampNeg)] μ (fun r2 μ1 => Q (some (.int r2)) μ1))) : wm_Ok 0 212 [.ref 89, .int a1] μ Q := wm_ent (nL := 2) (l := [.ref 89, .int a1]) (by decide +kernel) (by decide +kernel) (by decide +kernel) rfl rfl (wm_vc mo_212 (rt := some .int) (by decide +kernel) mc_212 36 h)
-- WindBoatModel.isWhole(I)Z
set_option maxRecDepth 100000 in
set_option maxHeartbeats 8000000 in
theorem f_213 (a1 : Int32) (μ : wm_M) (Q : Option Value → wm_M → Prop) (h : wm_OkI 0 191 [.ref 89, .int a1] μ (fun r2 μ1 => ((r2 = (0 : Int32) → wm_Wp 0 213 25 [.null, .null] μ1 Q) ∧ (¬ r2 = (0 : Int32) → wm_Wp 0 213 8 [.ref 89, .int a1] μ1 Q)))) : wm_Ok 0 213 [.ref 89, .int a1] μ Q := wm_ent (nL := 2) (l := [.ref 89, .int a1]) (by decide +kernel) (by decide +kernel) (by decide +kernel) rfl rfl (wm_vc mo_213 (rt := some .boolean) (by decide +kernel) mc_213 50 h)
-- WindBoatModel.isWhole(I)Z, the place 8
set_option maxRecDepth 100000 in
set_option maxHeartbeats 8000000 in
theorem f_213_8 (x1 : Int32) (μ : wm_M) (Q : Option Value → wm_M → Prop) (h : (vp_in ((452 : Int32) + x1) 2060 ∧ (((μ.1 91 (((452 : Int32) + x1)).toNatClampNeg) = (0 : Int32) → (((1 : Int32) = 0 ∨ (1 : Int32) = 1) ∧ Q (some (.int (1 : Int32))) μ)) ∧ (¬ (μ.1 91 (((452 : Int32) + x1)).toNatClampNeg) = (0 : Int32) → wm_Wp 0 213 25 [.null, .null] μ Q)))) : wm_Wp 0 213 8 [.ref 89, .int x1] μ Q := wm_vc mo_213 (rt := some .boolean) (by decide +kernel) mc_213 50 h
-- WindBoatModel.isWhole(I)Z, the place 25
set_option maxRecDepth 100000 in
set_option maxHeartbeats 8000000 in
theorem f_213_25 (μ : wm_M) (Q : Option Value → wm_M → Prop) (h : (((0 : Int32) = 0 ∨ (0 : Int32) = 1) ∧ Q (some (.int (0 : Int32))) μ)) : wm_Wp 0 213 25 [.null, .null] μ Q := wm_vc mo_213 (rt := some .boolean) (by decide +kernel) mc_213 50 h
-- WindBoatModel.pace(III)I
set_option maxRecDepth 100000 in
set_option maxHeartbeats 8000000 in
theorem f_214 (a1 : Int32) (a2 : Int32) (a3 : Int32) (μ : wm_M) (Q : Option Value → wm_M → Prop) (h : wm_OkI 0 191 [.ref 89, .int a1] μ (fun r2 μ1 => ((r2 = (0 : Int32) → wm_Wp 0 214 17 [.ref 89, .null, .null, .null] μ1 Q) ∧ (¬ r2 = (0 : Int32) → wm_Wp 0 214 8 [.ref 89, .int a1, .int a2, .int a3] μ1 Q)))) : wm_Ok 0 214 [.ref 89, .int a1, .int a2, .int a3] μ Q := wm_ent (nL := 4) (l := [.ref 89, .int a1, .int a2, .int a3]) (by decide +kernel) (by decide +kernel) (by decide +kernel) rfl rfl (wm_vc mo_214 (rt := some .int) (by decide +kernel) mc_214 84 h)
-- WindBoatModel.pace(III)I, the place 8
set_option maxRecDepth 100000 in
set_option maxHeartbeats 8000000 in
theorem f_214_8 (x1 : Int32) (x2 : Int32) (x3 : Int32) (μ : wm_M) (Q : Option Value → wm_M → Prop) (h : wm_OkI 0 184 [.int x2, .int (0 : Int32), .int (4 : Int32)] μ (fun r2 μ1 => ((r2 = (0 : Int32) → wm_Wp 0 214 17 [.ref 89, .null, .null, .null] μ1 Q) ∧ (¬ r2 = (0 : Int32) → wm_Wp 0 214 24 [.ref 89, .int x1, .int x2, .int x3] μ1 Q)))) : wm_Wp 0 214 8 [.ref 89, .int x1, .int x2, .int x3] μ Q := wm_vc mo_214 (rt := some .int) (by decide +kernel) mc_214 84 h
-- WindBoatModel.pace(III)I, the place 17
set_option maxRecDepth 100000 in
set_option maxHeartbeats 8000000 in
theorem f_214_17 (μ : wm_M) (Q : Option Value → wm_M → Prop) (h : wm_OkI 0 185 [.ref 89, .int (-3 : Int32)] μ (fun r2 μ1 => Q (some (.int r2)) μ1)) : wm_Wp 0 214 17 [.ref 89, .null, .null, .null] μ Q := wm_vc mo_214 (rt := some .int) (by decide +kernel) mc_214 84 h
-- WindBoatModel.pace(III)I, the place 24
set_option maxRecDepth 100000 in
set_option maxHeartbeats 8000000 in
theorem f_214_24 (x1 : Int32) (x2 : Int32) (x3 : Int32) (μ : wm_M) (Q : Option Value → wm_M → Prop) (h : wm_OkI 0 184 [.int x3, .int (0 : Int32), .int (99 : Int32)] μ (fun r2 μ1 => ((r2 = (0 : Int32) → wm_Wp 0 214 52 [.ref 89, .null, .null, .null] μ1 Q) ∧ (¬ r2 = (0 : Int32) → wm_Wp 0 214 34 [.ref 89, .int x1, .int x2, .int x3] μ1 Q)))) : wm_Wp 0 214 24 [.ref 89, .int x1, .int x2, .int x3] μ Q := wm_vc mo_214 (rt := some .int) (by decide +kernel) mc_214 84 h
-- WindBoatModel.pace(III)I, the place 34
set_option maxRecDepth 100000 in
set_option maxHeartbeats 8000000 in
theorem f_214_34 (x1 : Int32) (x2 : Int32) (x3 : Int32) (μ : wm_M) (Q : Option Value → wm_M → Prop) (h : (vp_in ((449 : Int32) + x1) 2060 ∧ wm_OkI 0 209 [.int (μ.1 91 (((449 : Int32) + x1)).toNatClampNeg), .int x2, .int x3] μ (fun r2 μ1 => Q (some (.int r2)) μ1))) : wm_Wp 0 214 34 [.ref 89, .int x1, .int x2, .int x3] μ Q := wm_vc mo_214 (rt := some .int) (by decide +kernel) mc_214 84 h
-- WindBoatModel.pace(III)I, the place 52
set_option maxRecDepth 100000 in
set_option maxHeartbeats 8000000 in
theorem f_214_52 (μ : wm_M) (Q : Option Value → wm_M → Prop) (h : wm_OkI 0 185 [.ref 89, .int (-7 : Int32)] μ (fun r2 μ1 => Q (some (.int r2)) μ1)) : wm_Wp 0 214 52 [.ref 89, .null, .null, .null] μ Q := wm_vc mo_214 (rt := some .int) (by decide +kernel) mc_214 84 h
-- WindBoatModel.sailOf(II)I
set_option maxRecDepth 100000 in
set_option maxHeartbeats 8000000 in
theorem f_215 (a1 : Int32) (a2 : Int32) (μ : wm_M) (Q : Option Value → wm_M → Prop) (h : wm_OkI 0 191 [.ref 89, .int a1] μ (fun r2 μ1 => ((r2 = (0 : Int32) → wm_Wp 0 215 8 [.ref 89, .null, .null] μ1 Q) ∧ (¬ r2 = (0 : Int32) → wm_Wp 0 215 15 [.ref 89, .int a1, .int a2] μ1 Q)))) : wm_Ok 0 215 [.ref 89, .int a1, .int a2] μ Q := wm_ent (nL := 3) (l := [.ref 89, .int a1, .int a2]) (by decide +kernel) (by decide +kernel) (by decide +kernel) rfl rfl (wm_vc mo_215 (rt := some .int) (by decide +kernel) mc_215 84 h)
-- WindBoatModel.sailOf(II)I, the place 8
set_option maxRecDepth 100000 in
set_option maxHeartbeats 8000000 in
theorem f_215_8 (μ : wm_M) (Q : Option Value → wm_M → Prop) (h : wm_OkI 0 185 [.ref 89, .int (-3 : Int32)] μ (fun r2 μ1 => Q (some (.int r2)) μ1)) : wm_Wp 0 215 8 [.ref 89, .null, .null] μ Q := wm_vc mo_215 (rt := some .int) (by decide +kernel) mc_215 84 h
-- WindBoatModel.sailOf(II)I, the place 15
set_option maxRecDepth 100000 in
set_option maxHeartbeats 8000000 in
theorem f_215_15 (x1 : Int32) (x2 : Int32) (μ : wm_M) (Q : Option Value → wm_M → Prop) (h : (((x2).toInt < 0 ∨ 2 < (x2).toInt → wm_Wp 0 215 72 [.ref 89, .null, .null] μ Q) ∧ (((x2).toInt = 0 → wm_Wp 0 215 44 [.ref 89, .int x1, .null] μ Q) ∧ (((x2).toInt = 1 → wm_Wp 0 215 55 [.ref 89, .int x1, .null] μ Q) ∧ (((x2).toInt = 2 → wm_Wp 0 215 61 [.ref 89, .int x1, .null] μ Q) ∧ True))))) : wm_Wp 0 215 15 [.ref 89, .int x1, .int x2] μ Q := wm_vc mo_215 (rt := some .int) (by decide +kernel) mc_215 84 h
-- WindBoatModel.sailOf(II)I, the place 44
set_option maxRecDepth 100000 in
set_option maxHeartbeats 8000000 in
theorem f_215_44 (x1 : Int32) (μ : wm_M) (Q : Option Value → wm_M → Prop) (h : (vp_in ((449 : Int32) + x1) 2060 ∧ Q (some (.int (μ.1 91 (((449 : Int32) + x1)).toNatClampNeg))) μ)) : wm_Wp 0 215 44 [.ref 89, .int x1, .null] μ Q := wm_vc mo_215 (rt := some .int) (by decide +kernel) mc_215 84 h
-- WindBoatModel.sailOf(II)I, the place 55
set_option maxRecDepth 100000 in
set_option maxHeartbeats 8000000 in
theorem f_215_55 (x1 : Int32) (μ : wm_M) (Q : Option Value → wm_M → Prop) (h : wm_OkI 0 212 [.ref 89, .int x1] μ (fun r2 μ1 => Q (some (.int r2)) μ1)) : wm_Wp 0 215 55 [.ref 89, .int x1, .null] μ Q := wm_vc mo_215 (rt := some .int) (by decide +kernel) mc_215 84 h
-- WindBoatModel.sailOf(II)I, the place 61
set_option maxRecDepth 100000 in
set_option maxHeartbeats 8000000 in
theorem f_215_61 (x1 : Int32) (μ : wm_M) (Q : Option Value → wm_M → Prop) (h : (vp_in ((452 : Int32) + x1) 2060 ∧ Q (some (.int (μ.1 91 (((452 : Int32) + x1)).toNatClampNeg))) μ)) : wm_Wp 0 215 61 [.ref 89, .int x1, .null] μ Q := wm_vc mo_215 (rt := some .int) (by decide +kernel) mc_215 84 h
-- WindBoatModel.sailOf(II)I, the place 72
set_option maxRecDepth 100000 in
set_option maxHeartbeats 8000000 in
theorem f_215_72 (μ : wm_M) (Q : Option Value → wm_M → Prop) (h : wm_OkI 0 185 [.ref 89, .int (-7 : Int32)] μ (fun r2 μ1 => Q (some (.int r2)) μ1)) : wm_Wp 0 215 72 [.ref 89, .null, .null] μ Q := wm_vc mo_215 (rt := some .int) (by decide +kernel) mc_215 84 h
-- WindBoatModel.over(I)I
set_option maxRecDepth 100000 in
set_option maxHeartbeats 8000000 in
theorem f_216 (a0 : Int32) (μ : wm_M) (Q : Option Value → wm_M → Prop) (h : ((a0 = (0 : Int32) → Q (some (.int (-1 : Int32))) μ) ∧ (¬ a0 = (0 : Int32) → wm_Wp 0 216 8 [.int a0] μ Q))) : wm_Ok 0 216 [.int a0] μ Q := wm_ent (nL := 1) (l := [.int a0]) (by decide +kernel) (by decide +kernel) (by decide +kernel) rfl rfl (wm_vc mo_216 (rt := some .int) (by decide +kernel) mc_216 52 h)
-- WindBoatModel.over(I)I, the place 8
set_option maxRecDepth 100000 in
set_option maxHeartbeats 8000000 in
theorem f_216_8 (x0 : Int32) (μ : wm_M) (Q : Option Value → wm_M → Prop) (h : ((x0 = (2 : Int32) → Q (some (.int (1 : Int32))) μ) ∧ (¬ x0 = (2 : Int32) → wm_Wp 0 216 17 [.int x0] μ Q))) : wm_Wp 0 216 8 [.int x0] μ Q := wm_vc mo_216 (rt := some .int) (by decide +kernel) mc_216 52 h
-- WindBoatModel.over(I)I, the place 17
set_option maxRecDepth 100000 in
set_option maxHeartbeats 8000000 in
theorem f_216_17 (x0 : Int32) (μ : wm_M) (Q : Option Value → wm_M → Prop) (h : ((x0 = (4 : Int32) → Q (some (.int (3 : Int32))) μ) ∧ (¬ x0 = (4 : Int32) → wm_Wp 0 216 26 [.null] μ Q))) : wm_Wp 0 216 17 [.int x0] μ Q := wm_vc mo_216 (rt := some .int) (by decide +kernel) mc_216 52 h
-- WindBoatModel.over(I)I, the place 26
set_option maxRecDepth 100000 in
set_option maxHeartbeats 8000000 in
theorem f_216_26 (μ : wm_M) (Q : Option Value → wm_M → Prop) (h : Q (some (.int (0 : Int32))) μ) : wm_Wp 0 216 26 [.null] μ Q := wm_vc mo_216 (rt := some .int) (by decide +kernel) mc_216 52 h
-- WindBoatModel.taken(II)I
set_option maxRecDepth 100000 in
set_option maxHeartbeats 8000000 in
theorem f_217 (a1 : Int32) (a2 : Int32) (μ : wm_M) (Q : Option Value → wm_M → Prop) (h : wm_OkI 0 191 [.ref 89, .int a1] μ (fun r2 μ1 => ((r2 = (0 : Int32) → wm_Wp 0 217 8 [.ref 89, .null, .null, .null] μ1 Q) ∧ (¬ r2 = (0 : Int32) → wm_Wp 0 217 15 [.ref 89, .int a1, .int a2, .null] μ1 Q)))) : wm_Ok 0 217 [.ref 89, .int a1, .int a2] μ Q := wm_ent (nL := 4) (l := [.ref 89, .int a1, .int a2, .null]) (by decide +kernel) (by decide +kernel) (by decide +kernel) rfl rfl (wm_vc mo_217 (rt := some .int) (by decide +kernel) mc_217 110 h)
-- WindBoatModel.taken(II)I, the place 8
set_option maxRecDepth 100000 in
set_option maxHeartbeats 8000000 in
theorem f_217_8 (μ : wm_M) (Q : Option Value → wm_M → Prop) (h : wm_OkI 0 185 [.ref 89, .int (-3 : Int32)] μ (fun r2 μ1 => Q (some (.int r2)) μ1)) : wm_Wp 0 217 8 [.ref 89, .null, .null, .null] μ Q := wm_vc mo_217 (rt := some .int) (by decide +kernel) mc_217 110 h
-- WindBoatModel.taken(II)I, the place 15
set_option maxRecDepth 100000 in
set_option maxHeartbeats 8000000 in
theorem f_217_15 (x1 : Int32) (x2 : Int32) (μ : wm_M) (Q : Option Value → wm_M → Prop) (h : wm_OkI 0 184 [.int x2, .int (0 : Int32), .int (4 : Int32)] μ (fun r2 μ1 => ((r2 = (0 : Int32) → wm_Wp 0 217 24 [.ref 89, .null, .null, .null] μ1 Q) ∧ (¬ r2 = (0 : Int32) → wm_Wp 0 217 31 [.ref 89, .int x1, .int x2, .null] μ1 Q)))) : wm_Wp 0 217 15 [.ref 89, .int x1, .int x2, .null] μ Q := wm_vc mo_217 (rt := some .int) (by decide +kernel) mc_217 110 h
-- WindBoatModel.taken(II)I, the place 24
set_option maxRecDepth 100000 in
set_option maxHeartbeats 8000000 in
theorem f_217_24 (μ : wm_M) (Q : Option Value → wm_M → Prop) (h : wm_OkI 0 185 [.ref 89, .int (-7 : Int32)] μ (fun r2 μ1 => Q (some (.int r2)) μ1)) : wm_Wp 0 217 24 [.ref 89, .null, .null, .null] μ Q := wm_vc mo_217 (rt := some .int) (by decide +kernel) mc_217 110 h
-- WindBoatModel.taken(II)I, the place 31
set_option maxRecDepth 100000 in
set_option maxHeartbeats 8000000 in
theorem f_217_31 (x1 : Int32) (x2 : Int32) (μ : wm_M) (Q : Option Value → wm_M → Prop) (h : (vp_in ((449 : Int32) + x1) 2060 ∧ wm_Wp 0 217 42 [.ref 89, .int x1, .int x2, .int (μ.1 91 (((449 : Int32) + x1)).toNatClampNeg)] μ Q)) : wm_Wp 0 217 31 [.ref 89, .int x1, .int x2, .null] μ Q := wm_vc mo_217 (rt := some .int) (by decide +kernel) mc_217 110 h
-- WindBoatModel.taken(II)I, the place 42
set_option maxRecDepth 100000 in
set_option maxHeartbeats 8000000 in
theorem f_217_42 (x1 : Int32) (x2 : Int32) (x3 : Int32) (μ : wm_M) (Q : Option Value → wm_M → Prop) (h : ((x3 = (-1 : Int32) → wm_Wp 0 217 60 [.ref 89, .int x1, .int x2, .int x3] μ Q) ∧ (¬ x3 = (-1 : Int32) → ((x3 = x2 → wm_Wp 0 217 60 [.ref 89, .int x1, .int x2, .int x3] μ Q) ∧ (¬ x3 = x2 → wm_OkI 0 216 [.int x3] μ (fun r2 μ1 => wm_Wp 0 217 57 [.ref 89, .int x1, .int x2, .int r2] μ1 Q)))))) : wm_Wp 0 217 42 [.ref 89, .int x1, .int x2, .int x3] μ Q := wm_vc mo_217 (rt := some .int) (by decide +kernel) mc_217 110 h
-- WindBoatModel.taken(II)I, the place 57
set_option maxRecDepth 100000 in
set_option maxHeartbeats 8000000 in
theorem f_217_57 (x1 : Int32) (x2 : Int32) (x3 : Int32) (μ : wm_M) (Q : Option Value → wm_M → Prop) (h : wm_Wp 0 217 42 [.ref 89, .int x1, .int x2, .int x3] μ Q) : wm_Wp 0 217 57 [.ref 89, .int x1, .int x2, .int x3] μ Q := wm_vc mo_217 (rt := some .int) (by decide +kernel) mc_217 110 h
-- WindBoatModel.taken(II)I, the place 60
set_option maxRecDepth 100000 in
set_option maxHeartbeats 8000000 in
theorem f_217_60 (x1 : Int32) (x2 : Int32) (x3 : Int32) (μ : wm_M) (Q : Option Value → wm_M → Prop) (h : ((x3 = x2 → wm_OkI 0 212 [.ref 89, .int x1] μ (fun r2 μ1 => Q (some (.int r2)) μ1)) ∧ (¬ x3 = x2 → wm_Wp 0 217 73 [.ref 89, .null, .null, .null] μ Q))) : wm_Wp 0 217 60 [.ref 89, .int x1, .int x2, .int x3] μ Q := wm_vc mo_217 (rt := some .int) (by decide +kernel) mc_217 110 h
-- WindBoatModel.taken(II)I, the place 73
set_option maxRecDepth 100000 in
set_option maxHeartbeats 8000000 in
theorem f_217_73 (μ : wm_M) (Q : Option Value → wm_M → Prop) (h : wm_OkI 0 185 [.ref 89, .int (-5 : Int32)] μ (fun r2 μ1 => Q (some (.int r2)) μ1)) : wm_Wp 0 217 73 [.ref 89, .null, .null, .null] μ Q := wm_vc mo_217 (rt := some .int) (by decide +kernel) mc_217 110 h
-- WindBoatModel.hand()I
set_option maxRecDepth 100000 in
set_option maxHeartbeats 8000000 in
theorem f_218 (μ : wm_M) (Q : Option Value → wm_M → Prop) (h : wm_OkI 0 188 [.ref 89, .int (1 : Int32)] μ (fun r2 μ1 => ((r2 = (8 : Int32) → wm_Wp 0 218 10 [.ref 89] μ1 Q) ∧ (¬ r2 = (8 : Int32) → wm_Wp 0 218 17 [.ref 89] μ1 Q)))) : wm_Ok 0 218 [.ref 89] μ Q := wm_ent (nL := 1) (l := [.ref 89]) (by decide +kernel) (by decide +kernel) (by decide +kernel) rfl rfl (wm_vc mo_218 (rt := some .int) (by decide +kernel) mc_218 102 h)
-- WindBoatModel.hand()I, the place 10
set_option maxRecDepth 100000 in
set_option maxHeartbeats 8000000 in
theorem f_218_10 (μ : wm_M) (Q : Option Value → wm_M → Prop) (h : wm_OkI 0 185 [.ref 89, .int (-8 : Int32)] μ (fun r2 μ1 => Q (some (.int r2)) μ1)) : wm_Wp 0 218 10 [.ref 89] μ Q := wm_vc mo_218 (rt := some .int) (by decide +kernel) mc_218 102 h
-- WindBoatModel.hand()I, the place 17
set_option maxRecDepth 100000 in
set_option maxHeartbeats 8000000 in
theorem f_218_17 (μ : wm_M) (Q : Option Value → wm_M → Prop) (h : wm_OkI 0 188 [.ref 89, .int (1 : Int32)] μ (fun r2 μ1 => (vp_in ((455 : Int32) + r2) 2060 ∧ wm_Wp 0 218 32 [.ref 89] (wm_si μ1 91 (((455 : Int32) + r2)).toNatClampNeg (0 : Int32)) Q))) : wm_Wp 0 218 17 [.ref 89] μ Q := wm_vc mo_218 (rt := some .int) (by decide +kernel) mc_218 102 h
-- WindBoatModel.hand()I, the place 32
set_option maxRecDepth 100000 in
set_option maxHeartbeats 8000000 in
theorem f_218_32 (μ : wm_M) (Q : Option Value → wm_M → Prop) (h : wm_OkI 0 188 [.ref 89, .int (1 : Int32)] μ (fun r2 μ1 => (vp_in ((463 : Int32) + r2) 2060 ∧ wm_Wp 0 218 47 [.ref 89] (wm_si μ1 91 (((463 : Int32) + r2)).toNatClampNeg (0 : Int32)) Q))) : wm_Wp 0 218 32 [.ref 89] μ Q := wm_vc mo_218 (rt := some .int) (by decide +kernel) mc_218 102 h
-- WindBoatModel.hand()I, the place 47
set_option maxRecDepth 100000 in
set_option maxHeartbeats 8000000 in
theorem f_218_47 (μ : wm_M) (Q : Option Value → wm_M → Prop) (h : (vp_in (2041 : Int32) 2060 ∧ (vp_in (2041 : Int32) 2060 ∧ wm_Wp 0 218 59 [.ref 89] (wm_si μ 91 ((2041 : Int32)).toNatClampNeg ((μ.1 91 ((2041 : Int32)).toNatClampNeg) + (1 : Int32))) Q))) : wm_Wp 0 218 47 [.ref 89] μ Q := wm_vc mo_218 (rt := some .int) (by decide +kernel) mc_218 102 h
-- WindBoatModel.hand()I, the place 59
set_option maxRecDepth 100000 in
set_option maxHeartbeats 8000000 in
theorem f_218_59 (μ : wm_M) (Q : Option Value → wm_M → Prop) (h : wm_OkI 0 188 [.ref 89, .int (1 : Int32)] μ (fun r2 μ1 => Q (some (.int (r2 - (1 : Int32)))) μ1)) : wm_Wp 0 218 59 [.ref 89] μ Q := wm_vc mo_218 (rt := some .int) (by decide +kernel) mc_218 102 h
-- WindBoatModel.sleep(II)I
set_option maxRecDepth 100000 in
set_option maxHeartbeats 8000000 in
theorem f_219 (a1 : Int32) (a2 : Int32) (μ : wm_M) (Q : Option Value → wm_M → Prop) (h : wm_OkI 0 188 [.ref 89, .int (1 : Int32)] μ (fun r2 μ1 => wm_OkI 0 184 [.int a1, .int (0 : Int32), .int (r2 - (1 : Int32))] μ1 (fun r4 μ3 => ((r4 = (0 : Int32) → wm_Wp 0 219 15 [.ref 89, .null, .null] μ3 Q) ∧ (¬ r4 = (0 : Int32) → wm_Wp 0 219 22 [.ref 89, .int a1, .int a2] μ3 Q))))) : wm_Ok 0 219 [.ref 89, .int a1, .int a2] μ Q := wm_ent (nL := 3) (l := [.ref 89, .int a1, .int a2]) (by decide +kernel) (by decide +kernel) (by decide +kernel) rfl rfl (wm_vc mo_219 (rt := some .int) (by decide +kernel) mc_219 92 h)
-- WindBoatModel.sleep(II)I, the place 15
set_option maxRecDepth 100000 in
set_option maxHeartbeats 8000000 in
theorem f_219_15 (μ : wm_M) (Q : Option Value → wm_M → Prop) (h : wm_OkI 0 185 [.ref 89, .int (-3 : Int32)] μ (fun r2 μ1 => Q (some (.int r2)) μ1)) : wm_Wp 0 219 15 [.ref 89, .null, .null] μ Q := wm_vc mo_219 (rt := some .int) (by decide +kernel) mc_219 92 h
-- WindBoatModel.sleep(II)I, the place 22
set_option maxRecDepth 100000 in
set_option maxHeartbeats 8000000 in
theorem f_219_22 (x1 : Int32) (x2 : Int32) (μ : wm_M) (Q : Option Value → wm_M → Prop) (h : wm_OkI 0 184 [.int x2, .int (0 : Int32), .int (1 : Int32)] μ (fun r2 μ1 => ((r2 = (0 : Int32) → wm_Wp 0 219 31 [.ref 89, .null, .null] μ1 Q) ∧ (¬ r2 = (0 : Int32) → wm_Wp 0 219 38 [.ref 89, .int x1, .int x2] μ1 Q)))) : wm_Wp 0 219 22 [.ref 89, .int x1, .int x2] μ Q := wm_vc mo_219 (rt := some .int) (by decide +kernel) mc_219 92 h
-- WindBoatModel.sleep(II)I, the place 31
set_option maxRecDepth 100000 in
set_option maxHeartbeats 8000000 in
theorem f_219_31 (μ : wm_M) (Q : Option Value → wm_M → Prop) (h : wm_OkI 0 185 [.ref 89, .int (-7 : Int32)] μ (fun r2 μ1 => Q (some (.int r2)) μ1)) : wm_Wp 0 219 31 [.ref 89, .null, .null] μ Q := wm_vc mo_219 (rt := some .int) (by decide +kernel) mc_219 92 h
-- WindBoatModel.sleep(II)I, the place 38
set_option maxRecDepth 100000 in
set_option maxHeartbeats 8000000 in
theorem f_219_38 (x1 : Int32) (x2 : Int32) (μ : wm_M) (Q : Option Value → wm_M → Prop) (h : (vp_in ((463 : Int32) + x1) 2060 ∧ wm_Wp 0 219 49 [.ref 89, .int x1, .null] (wm_si μ 91 (((463 : Int32) + x1)).toNatClampNeg x2) Q)) : wm_Wp 0 219 38 [.ref 89, .int x1, .int x2] μ Q := wm_vc mo_219 (rt := some .int) (by decide +kernel) mc_219 92 h
-- WindBoatModel.sleep(II)I, the place 49
set_option maxRecDepth 100000 in
set_option maxHeartbeats 8000000 in
theorem f_219_49 (x1 : Int32) (μ : wm_M) (Q : Option Value → wm_M → Prop) (h : (vp_in ((455 : Int32) + x1) 2060 ∧ Q (some (.int (μ.1 91 (((455 : Int32) + x1)).toNatClampNeg))) μ)) : wm_Wp 0 219 49 [.ref 89, .int x1, .null] μ Q := wm_vc mo_219 (rt := some .int) (by decide +kernel) mc_219 92 h
-- WindBoatModel.awake()I
set_option maxRecDepth 100000 in
set_option maxHeartbeats 8000000 in
theorem f_220 (μ : wm_M) (Q : Option Value → wm_M → Prop) (h : wm_Wp 0 220 4 [.ref 89, .int (0 : Int32), .int (0 : Int32)] μ Q) : wm_Ok 0 220 [.ref 89] μ Q := wm_ent (nL := 3) (l := [.ref 89, .null, .null]) (by decide +kernel) (by decide +kernel) (by decide +kernel) rfl rfl (wm_vc mo_220 (rt := some .int) (by decide +kernel) mc_220 68 h)
-- WindBoatModel.awake()I, the place 4
set_option maxRecDepth 100000 in
set_option maxHeartbeats 8000000 in
theorem f_220_4 (x1 : Int32) (x2 : Int32) (μ : wm_M) (Q : Option Value → wm_M → Prop) (h : wm_OkI 0 188 [.ref 89, .int (1 : Int32)] μ (fun r2 μ1 => ((r2 ≤ x2 → wm_Wp 0 220 34 [.null, .int x1, .null] μ1 Q) ∧ (¬ r2 ≤ x2 → wm_Wp 0 220 13 [.ref 89, .int x1, .int x2] μ1 Q)))) : wm_Wp 0 220 4 [.ref 89, .int x1, .int x2] μ Q := wm_vc mo_220 (rt := some .int) (by decide +kernel) mc_220 68 h
-- WindBoatModel.awake()I, the place 13
set_option maxRecDepth 100000 in
set_option maxHeartbeats 8000000 in
theorem f_220_13 (x1 : Int32) (x2 : Int32) (μ : wm_M) (Q : Option Value → wm_M → Prop) (h : (vp_in ((463 : Int32) + x2) 2060 ∧ wm_Wp 0 220 31 [.ref 89, .int (x1 + ((1 : Int32) - (μ.1 91 (((463 : Int32) + x2)).toNatClampNeg))), .int (x2 + (1 : Int32))] μ Q)) : wm_Wp 0 220 13 [.ref 89, .int x1, .int x2] μ Q := wm_vc mo_220 (rt := some .int) (by decide +kernel) mc_220 68 h
-- WindBoatModel.awake()I, the place 31
set_option maxRecDepth 100000 in
set_option maxHeartbeats 8000000 in
theorem f_220_31 (x1 : Int32) (x2 : Int32) (μ : wm_M) (Q : Option Value → wm_M → Prop) (h : wm_Wp 0 220 4 [.ref 89, .int x1, .int x2] μ Q) : wm_Wp 0 220 31 [.ref 89, .int x1, .int x2] μ Q := wm_vc mo_220 (rt := some .int) (by decide +kernel) mc_220 68 h
-- WindBoatModel.awake()I, the place 34
set_option maxRecDepth 100000 in
set_option maxHeartbeats 8000000 in
theorem f_220_34 (x1 : Int32) (μ : wm_M) (Q : Option Value → wm_M → Prop) (h : Q (some (.int x1)) μ) : wm_Wp 0 220 34 [.null, .int x1, .null] μ Q := wm_vc mo_220 (rt := some .int) (by decide +kernel) mc_220 68 h
-- WindBoatModel.tiredOnes()I
set_option maxRecDepth 100000 in
set_option maxHeartbeats 8000000 in
theorem f_221 (μ : wm_M) (Q : Option Value → wm_M → Prop) (h : wm_OkI 0 188 [.ref 89, .int (6 : Int32)] μ (fun r2 μ1 => ((r2 = (1 : Int32) → wm_OkI 0 188 [.ref 89, .int (10 : Int32)] μ1 (fun r4 μ3 => wm_OkI 0 192 [.int r4] μ3 (fun r6 μ5 => wm_OkI 0 241 [.ref 89, .int (2 : Int32), .int (0 : Int32), .int (0 : Int32), .int r6] μ5 (fun r8 μ7 => wm_Wp 0 221 31 [.ref 89, .int r8, .null, .null] μ7 Q)))) ∧ (¬ r2 = (1 : Int32) → wm_OkI 0 241 [.ref 89, .int (2 : Int32), .int (0 : Int32), .int (0 : Int32), .int (0 : Int32)] μ1 (fun r10 μ9 => wm_Wp 0 221 31 [.ref 89, .int r10, .null, .null] μ9 Q))))) : wm_Ok 0 221 [.ref 89] μ Q := wm_ent (nL := 4) (l := [.ref 89, .null, .null, .null]) (by decide +kernel) (by decide +kernel) (by decide +kernel) rfl rfl (wm_vc mo_221 (rt := some .int) (by decide +kernel) mc_221 122 h)
-- WindBoatModel.tiredOnes()I, the place 31
set_option maxRecDepth 100000 in
set_option maxHeartbeats 8000000 in
theorem f_221_31 (x1 : Int32) (μ : wm_M) (Q : Option Value → wm_M → Prop) (h : wm_Wp 0 221 35 [.ref 89, .int x1, .int (0 : Int32), .int (0 : Int32)] μ Q) : wm_Wp 0 221 31 [.ref 89, .int x1, .null, .null] μ Q := wm_vc mo_221 (rt := some .int) (by decide +kernel) mc_221 122 h
-- WindBoatModel.tiredOnes()I, the place 35
set_option maxRecDepth 100000 in
set_option maxHeartbeats 8000000 in
theorem f_221_35 (x1 : Int32) (x2 : Int32) (x3 : Int32) (μ : wm_M) (Q : Option Value → wm_M → Prop) (h : wm_OkI 0 188 [.ref 89, .int (1 : Int32)] μ (fun r2 μ1 => ((r2 ≤ x3 → wm_Wp 0 221 85 [.null, .null, .int x2, .null] μ1 Q) ∧ (¬ r2 ≤ x3 → wm_Wp 0 221 44 [.ref 89, .int x1, .int x2, .int x3] μ1 Q)))) : wm_Wp 0 221 35 [.ref 89, .int x1, .int x2, .int x3] μ Q := wm_vc mo_221 (rt := some .int) (by decide +kernel) mc_221 122 h
-- WindBoatModel.tiredOnes()I, the place 44
set_option maxRecDepth 100000 in
set_option maxHeartbeats 8000000 in
theorem f_221_44 (x1 : Int32) (x2 : Int32) (x3 : Int32) (μ : wm_M) (Q : Option Value → wm_M → Prop) (h : (vp_in ((463 : Int32) + x3) 2060 ∧ (((μ.1 91 (((463 : Int32) + x3)).toNatClampNeg) = (0 : Int32) → (vp_in ((455 : Int32) + x3) 2060 ∧ (((μ.1 91 (((455 : Int32) + x3)).toNatClampNeg) < x1 → wm_Wp 0 221 35 [.ref 89, .int x1, .int (x2 + (0 : Int32)), .int (x3 + (1 : Int32))] μ Q) ∧ (¬ (μ.1 91 (((455 : Int32) + x3)).toNatClampNeg) < x1 → wm_Wp 0 221 35 [.ref 89, .int x1, .int (x2 + (1 : Int32)), .int (x3 + (1 : Int32))] μ Q)))) ∧ (¬ (μ.1 91 (((463 : Int32) + x3)).toNatClampNeg) = (0 : Int32) → wm_Wp 0 221 35 [.ref 89, .int x1, .int (x2 + (0 : Int32)), .int (x3 + (1 : Int32))] μ Q)))) : wm_Wp 0 221 44 [.ref 89, .int x1, .int x2, .int x3] μ Q := wm_vc mo_221 (rt := some .int) (by decide +kernel) mc_221 122 h
-- WindBoatModel.tiredOnes()I, the place 85
set_option maxRecDepth 100000 in
set_option maxHeartbeats 8000000 in
theorem f_221_85 (x2 : Int32) (μ : wm_M) (Q : Option Value → wm_M → Prop) (h : Q (some (.int x2)) μ) : wm_Wp 0 221 85 [.null, .null, .int x2, .null] μ Q := wm_vc mo_221 (rt := some .int) (by decide +kernel) mc_221 122 h
-- WindBoatModel.changeNow()I
set_option maxRecDepth 100000 in
set_option maxHeartbeats 8000000 in
theorem f_222 (μ : wm_M) (Q : Option Value → wm_M → Prop) (h : wm_OkI 0 220 [.ref 89] μ (fun r2 μ1 => ((r2 = (0 : Int32) → wm_Wp 0 222 7 [.null] μ1 Q) ∧ (¬ r2 = (0 : Int32) → wm_Wp 0 222 12 [.ref 89] μ1 Q)))) : wm_Ok 0 222 [.ref 89] μ Q := wm_ent (nL := 1) (l := [.ref 89]) (by decide +kernel) (by decide +kernel) (by decide +kernel) rfl rfl (wm_vc mo_222 (rt := some .int) (by decide +kernel) mc_222 40 h)
-- WindBoatModel.changeNow()I, the place 7
set_option maxRecDepth 100000 in
set_option maxHeartbeats 8000000 in
theorem f_222_7 (μ : wm_M) (Q : Option Value → wm_M → Prop) (h : Q (some (.int (9 : Int32))) μ) : wm_Wp 0 222 7 [.null] μ Q := wm_vc mo_222 (rt := some .int) (by decide +kernel) mc_222 40 h
-- WindBoatModel.changeNow()I, the place 12
set_option maxRecDepth 100000 in
set_option maxHeartbeats 8000000 in
theorem f_222_12 (μ : wm_M) (Q : Option Value → wm_M → Prop) (h : wm_OkI 0 221 [.ref 89] μ (fun r2 μ1 => Q (some (.int ((2 : Int32) + r2))) μ1)) : wm_Wp 0 222 12 [.ref 89] μ Q := wm_vc mo_222 (rt := some .int) (by decide +kernel) mc_222 40 h
-- WindBoatModel.feed(II)I
set_option maxRecDepth 100000 in
set_option maxHeartbeats 8000000 in
theorem f_223 (a1 : Int32) (a2 : Int32) (μ : wm_M) (Q : Option Value → wm_M → Prop) (h : (((0 : Int32) ≤ a2 → wm_Wp 0 223 11 [.ref 89, .int a1, .int a2, .null] μ Q) ∧ (¬ (0 : Int32) ≤ a2 → wm_OkI 0 185 [.ref 89, .int (-4 : Int32)] μ (fun r2 μ1 => Q (some (.int r2)) μ1)))) : wm_Ok 0 223 [.ref 89, .int a1, .int a2] μ Q := wm_ent (nL := 4) (l := [.ref 89, .int a1, .int a2, .null]) (by decide +kernel) (by decide +kernel) (by decide +kernel) rfl rfl (wm_vc mo_223 (rt := some .int) (by decide +kernel) mc_223 124 h)
-- WindBoatModel.feed(II)I, the place 11
set_option maxRecDepth 100000 in
set_option maxHeartbeats 8000000 in
theorem f_223_11 (x1 : Int32) (x2 : Int32) (μ : wm_M) (Q : Option Value → wm_M → Prop) (h : ((x2 ≤ (4 : Int32) → wm_Wp 0 223 23 [.ref 89, .int x1, .int x2, .null] μ Q) ∧ (¬ x2 ≤ (4 : Int32) → wm_OkI 0 185 [.ref 89, .int (-7 : Int32)] μ (fun r2 μ1 => Q (some (.int r2)) μ1)))) : wm_Wp 0 223 11 [.ref 89, .int x1, .int x2, .null] μ Q := wm_vc mo_223 (rt := some .int) (by decide +kernel) mc_223 124 h
-- WindBoatModel.feed(II)I, the place 23
set_option maxRecDepth 100000 in
set_option maxHeartbeats 8000000 in
theorem f_223_23 (x1 : Int32) (x2 : Int32) (μ : wm_M) (Q : Option Value → wm_M → Prop) (h : ((((μ.1 89 4) + x2) ≤ (120 : Int32) → wm_Wp 0 223 41 [.ref 89, .int x1, .int x2, .null] μ Q) ∧ (¬ ((μ.1 89 4) + x2) ≤ (120 : Int32) → wm_OkI 0 185 [.ref 89, .int (-8 : Int32)] μ (fun r2 μ1 => Q (some (.int r2)) μ1)))) : wm_Wp 0 223 23 [.ref 89, .int x1, .int x2, .null] μ Q := wm_vc mo_223 (rt := some .int) (by decide +kernel) mc_223 124 h
-- WindBoatModel.feed(II)I, the place 41
set_option maxRecDepth 100000 in
set_option maxHeartbeats 8000000 in
theorem f_223_41 (x1 : Int32) (x2 : Int32) (μ : wm_M) (Q : Option Value → wm_M → Prop) (h : wm_Wp 0 223 45 [.ref 89, .int x1, .null, .int (x2 - (1 : Int32))] μ Q) : wm_Wp 0 223 41 [.ref 89, .int x1, .int x2, .null] μ Q := wm_vc mo_223 (rt := some .int) (by decide +kernel) mc_223 124 h
-- WindBoatModel.feed(II)I, the place 45
set_option maxRecDepth 100000 in
set_option maxHeartbeats 8000000 in
theorem f_223_45 (x1 : Int32) (x3 : Int32) (μ : wm_M) (Q : Option Value → wm_M → Prop) (h : ((x3 < (0 : Int32) → wm_Wp 0 223 84 [.ref 89, .null, .null, .null] μ Q) ∧ (¬ x3 < (0 : Int32) → (vp_in (μ.1 89 4) 120 ∧ wm_Wp 0 223 68 [.ref 89, .int x1, .null, .int x3] (wm_si μ 92 ((μ.1 89 4)).toNatClampNeg ((x1 >>> (((8 : Int32) * x3) &&& 31)) &&& (255 : Int32))) Q)))) : wm_Wp 0 223 45 [.ref 89, .int x1, .null, .int x3] μ Q := wm_vc mo_223 (rt := some .int) (by decide +kernel) mc_223 124 h
-- WindBoatModel.feed(II)I, the place 68
set_option maxRecDepth 100000 in
set_option maxHeartbeats 8000000 in
theorem f_223_68 (x1 : Int32) (x3 : Int32) (μ : wm_M) (Q : Option Value → wm_M → Prop) (h : wm_Wp 0 223 78 [.ref 89, .int x1, .null, .int x3] (wm_si μ 89 4 ((μ.1 89 4) + (1 : Int32))) Q) : wm_Wp 0 223 68 [.ref 89, .int x1, .null, .int x3] μ Q := wm_vc mo_223 (rt := some .int) (by decide +kernel) mc_223 124 h
-- WindBoatModel.feed(II)I, the place 78
set_option maxRecDepth 100000 in
set_option maxHeartbeats 8000000 in
theorem f_223_78 (x1 : Int32) (x3 : Int32) (μ : wm_M) (Q : Option Value → wm_M → Prop) (h : wm_Wp 0 223 45 [.ref 89, .int x1, .null, .int (x3 + (-1 : Int32))] μ Q) : wm_Wp 0 223 78 [.ref 89, .int x1, .null, .int x3] μ Q := wm_vc mo_223 (rt := some .int) (by decide +kernel) mc_223 124 h
-- WindBoatModel.feed(II)I, the place 84
set_option maxRecDepth 100000 in
set_option maxHeartbeats 8000000 in
theorem f_223_84 (μ : wm_M) (Q : Option Value → wm_M → Prop) (h : Q (some (.int (μ.1 89 4))) μ) : wm_Wp 0 223 84 [.ref 89, .null, .null, .null] μ Q := wm_vc mo_223 (rt := some .int) (by decide +kernel) mc_223 124 h
-- WindBoatModel.wipe()I
set_option maxRecDepth 100000 in
set_option maxHeartbeats 8000000 in
theorem f_224 (μ : wm_M) (Q : Option Value → wm_M → Prop) (h : wm_Wp 0 224 10 [.null, .int (μ.1 89 4)] (wm_si μ 89 4 (0 : Int32)) Q) : wm_Ok 0 224 [.ref 89] μ Q := wm_ent (nL := 2) (l := [.ref 89, .null]) (by decide +kernel) (by decide +kernel) (by decide +kernel) rfl rfl (wm_vc mo_224 (rt := some .int) (by decide +kernel) mc_224 36 h)
-- WindBoatModel.wipe()I, the place 10
set_option maxRecDepth 100000 in
set_option maxHeartbeats 8000000 in
theorem f_224_10 (x1 : Int32) (μ : wm_M) (Q : Option Value → wm_M → Prop) (h : Q (some (.int x1)) μ) : wm_Wp 0 224 10 [.null, .int x1] μ Q := wm_vc mo_224 (rt := some .int) (by decide +kernel) mc_224 36 h
-- WindBoatModel.byteHere(I)I
set_option maxRecDepth 100000 in
set_option maxHeartbeats 8000000 in
theorem f_225 (a1 : Int32) (μ : wm_M) (Q : Option Value → wm_M → Prop) (h : ((a1 < (μ.1 89 6) → wm_Wp 0 225 12 [.ref 89, .int a1] μ Q) ∧ (¬ a1 < (μ.1 89 6) → Q (some (.int (-1 : Int32))) μ))) : wm_Ok 0 225 [.ref 89, .int a1] μ Q := wm_ent (nL := 2) (l := [.ref 89, .int a1]) (by decide +kernel) (by decide +kernel) (by decide +kernel) rfl rfl (wm_vc mo_225 (rt := some .int) (by decide +kernel) mc_225 64 h)
-- WindBoatModel.byteHere(I)I, the place 12
set_option maxRecDepth 100000 in
set_option maxHeartbeats 8000000 in
theorem f_225_12 (x1 : Int32) (μ : wm_M) (Q : Option Value → wm_M → Prop) (h : (((μ.1 89 17) = (0 : Int32) → wm_Wp 0 225 28 [.ref 89, .int x1] μ Q) ∧ (¬ (μ.1 89 17) = (0 : Int32) → (vp_in x1 120 ∧ Q (some (.int (μ.1 92 (x1).toNatClampNeg))) μ)))) : wm_Wp 0 225 12 [.ref 89, .int x1] μ Q := wm_vc mo_225 (rt := some .int) (by decide +kernel) mc_225 64 h
-- WindBoatModel.byteHere(I)I, the place 28
set_option maxRecDepth 100000 in
set_option maxHeartbeats 8000000 in
theorem f_225_28 (x1 : Int32) (μ : wm_M) (Q : Option Value → wm_M → Prop) (h : (vp_in ((μ.1 89 5) + x1) 2060 ∧ Q (some (.int (μ.1 91 (((μ.1 89 5) + x1)).toNatClampNeg))) μ)) : wm_Wp 0 225 28 [.ref 89, .int x1] μ Q := wm_vc mo_225 (rt := some .int) (by decide +kernel) mc_225 64 h
-- WindBoatModel.next()V
set_option maxRecDepth 100000 in
set_option maxHeartbeats 8000000 in
theorem f_226 (μ : wm_M) (Q : Option Value → wm_M → Prop) (h : wm_Wp 0 226 0 [.ref 89, .null, .null] μ Q) : wm_Ok 0 226 [.ref 89] μ Q := wm_ent (nL := 3) (l := [.ref 89, .null, .null]) (by decide +kernel) (by decide +kernel) (by decide +kernel) rfl rfl h
-- WindBoatModel.next()V, the place 0
set_option maxRecDepth 100000 in
set_option maxHeartbeats 8000000 in
theorem f_226_0 (μ : wm_M) (Q : Option Value → wm_M → Prop) (h : wm_OkI 0 225 [.ref 89, .int (μ.1 89 7)] μ (fun r2 μ1 => ((r2 = (32 : Int32) → wm_Wp 0 226 13 [.ref 89, .null, .null] μ1 Q) ∧ (¬ r2 = (32 : Int32) → wm_Wp 0 226 26 [.ref 89, .null, .null] μ1 Q)))) : wm_Wp 0 226 0 [.ref 89, .null, .null] μ Q := wm_vc mo_226 (rt := none) (by decide +kernel) mc_226 400 h
-- WindBoatModel.next()V, the place 13
set_option maxRecDepth 100000 in
set_option maxHeartbeats 8000000 in
theorem f_226_13 (μ : wm_M) (Q : Option Value → wm_M → Prop) (h : wm_Wp 0 226 23 [.ref 89, .null, .null] (wm_si μ 89 7 ((μ.1 89 7) + (1 : Int32))) Q) : wm_Wp 0 226 13 [.ref 89, .null, .null] μ Q := wm_vc mo_226 (rt := none) (by decide +kernel) mc_226 400 h
-- WindBoatModel.next()V, the place 23
set_option maxRecDepth 100000 in
set_option maxHeartbeats 8000000 in
theorem f_226_23 (μ : wm_M) (Q : Option Value → wm_M → Prop) (h : wm_Wp 0 226 0 [.ref 89, .null, .null] μ Q) : wm_Wp 0 226 23 [.ref 89, .null, .null] μ Q := wm_vc mo_226 (rt := none) (by decide +kernel) mc_226 400 h
-- WindBoatModel.next()V, the place 26
set_option maxRecDepth 100000 in
set_option maxHeartbeats 8000000 in
theorem f_226_26 (μ : wm_M) (Q : Option Value → wm_M → Prop) (h : wm_Wp 0 226 34 [.ref 89, .null, .null] (wm_si μ 89 9 (μ.1 89 7)) Q) : wm_Wp 0 226 26 [.ref 89, .null, .null] μ Q := wm_vc mo_226 (rt := none) (by decide +kernel) mc_226 400 h
-- WindBoatModel.next()V, the place 34
set_option maxRecDepth 100000 in
set_option maxHeartbeats 8000000 in
theorem f_226_34 (μ : wm_M) (Q : Option Value → wm_M → Prop) (h : wm_OkI 0 225 [.ref 89, .int (μ.1 89 7)] μ (fun r2 μ1 => wm_Wp 0 226 43 [.ref 89, .int r2, .null] μ1 Q)) : wm_Wp 0 226 34 [.ref 89, .null, .null] μ Q := wm_vc mo_226 (rt := none) (by decide +kernel) mc_226 400 h
-- WindBoatModel.next()V, the place 43
set_option maxRecDepth 100000 in
set_option maxHeartbeats 8000000 in
theorem f_226_43 (x1 : Int32) (μ : wm_M) (Q : Option Value → wm_M → Prop) (h : wm_Wp 0 226 48 [.ref 89, .int x1, .null] (wm_si μ 89 8 (4 : Int32)) Q) : wm_Wp 0 226 43 [.ref 89, .int x1, .null] μ Q := wm_vc mo_226 (rt := none) (by decide +kernel) mc_226 400 h
-- WindBoatModel.next()V, the place 48
set_option maxRecDepth 100000 in
set_option maxHeartbeats 8000000 in
theorem f_226_48 (x1 : Int32) (μ : wm_M) (Q : Option Value → wm_M → Prop) (h : wm_Wp 0 226 53 [.ref 89, .int x1, .null] (wm_sl μ 89 10 (0 : Int64)) Q) : wm_Wp 0 226 48 [.ref 89, .int x1, .null] μ Q := wm_vc mo_226 (rt := none) (by decide +kernel) mc_226 400 h
-- WindBoatModel.next()V, the place 53
set_option maxRecDepth 100000 in
set_option maxHeartbeats 8000000 in
theorem f_226_53 (x1 : Int32) (μ : wm_M) (Q : Option Value → wm_M → Prop) (h : (((0 : Int32) ≤ x1 → wm_Wp 0 226 73 [.ref 89, .int x1, .null] μ Q) ∧ (¬ (0 : Int32) ≤ x1 → wm_Wp 0 226 62 [.ref 89, .null, .null] (wm_si μ 89 8 (0 : Int32)) Q))) : wm_Wp 0 226 53 [.ref 89, .int x1, .null] μ Q := wm_vc mo_226 (rt := none) (by decide +kernel) mc_226 400 h
-- WindBoatModel.next()V, the place 62
set_option maxRecDepth 100000 in
set_option maxHeartbeats 8000000 in
theorem f_226_62 (μ : wm_M) (Q : Option Value → wm_M → Prop) (h : wm_Wp 0 226 70 [.null, .null, .null] (wm_si μ 89 9 (μ.1 89 6)) Q) : wm_Wp 0 226 62 [.ref 89, .null, .null] μ Q := wm_vc mo_226 (rt := none) (by decide +kernel) mc_226 400 h
-- WindBoatModel.next()V, the place 70
set_option maxRecDepth 100000 in
set_option maxHeartbeats 8000000 in
theorem f_226_70 (μ : wm_M) (Q : Option Value → wm_M → Prop) (h : wm_Wp 0 226 367 [.null, .null, .null] μ Q) : wm_Wp 0 226 70 [.null, .null, .null] μ Q := wm_vc mo_226 (rt := none) (by decide +kernel) mc_226 400 h
-- WindBoatModel.next()V, the place 73
set_option maxRecDepth 100000 in
set_option maxHeartbeats 8000000 in
theorem f_226_73 (x1 : Int32) (μ : wm_M) (Q : Option Value → wm_M → Prop) (h : ((x1 < (97 : Int32) → wm_Wp 0 226 175 [.ref 89, .int x1, .null] μ Q) ∧ (¬ x1 < (97 : Int32) → (((122 : Int32) < x1 → wm_Wp 0 226 175 [.ref 89, .int x1, .null] μ Q) ∧ (¬ (122 : Int32) < x1 → wm_Wp 0 226 90 [.ref 89, .null, .null] (wm_si μ 89 8 (1 : Int32)) Q))))) : wm_Wp 0 226 73 [.ref 89, .int x1, .null] μ Q := wm_vc mo_226 (rt := none) (by decide +kernel) mc_226 400 h
-- WindBoatModel.next()V, the place 90
set_option maxRecDepth 100000 in
set_option maxHeartbeats 8000000 in
theorem f_226_90 (μ : wm_M) (Q : Option Value → wm_M → Prop) (h : wm_Wp 0 226 92 [.ref 89, .null, .int (0 : Int32)] μ Q) : wm_Wp 0 226 90 [.ref 89, .null, .null] μ Q := wm_vc mo_226 (rt := none) (by decide +kernel) mc_226 400 h
-- WindBoatModel.next()V, the place 92
set_option maxRecDepth 100000 in
set_option maxHeartbeats 8000000 in
theorem f_226_92 (x2 : Int32) (μ : wm_M) (Q : Option Value → wm_M → Prop) (h : wm_OkI 0 225 [.ref 89, .int (μ.1 89 7)] μ (fun r2 μ1 => ((r2 < (97 : Int32) → wm_Wp 0 226 172 [.null, .null, .null] μ1 Q) ∧ (¬ r2 < (97 : Int32) → wm_Wp 0 226 105 [.ref 89, .null, .int x2] μ1 Q)))) : wm_Wp 0 226 92 [.ref 89, .null, .int x2] μ Q := wm_vc mo_226 (rt := none) (by decide +kernel) mc_226 400 h
-- WindBoatModel.next()V, the place 105
set_option maxRecDepth 100000 in
set_option maxHeartbeats 8000000 in
theorem f_226_105 (x2 : Int32) (μ : wm_M) (Q : Option Value → wm_M → Prop) (h : wm_OkI 0 225 [.ref 89, .int (μ.1 89 7)] μ (fun r2 μ1 => (((122 : Int32) < r2 → wm_Wp 0 226 172 [.null, .null, .null] μ1 Q) ∧ (¬ (122 : Int32) < r2 → wm_Wp 0 226 118 [.ref 89, .null, .int x2] μ1 Q)))) : wm_Wp 0 226 105 [.ref 89, .null, .int x2] μ Q := wm_vc mo_226 (rt := none) (by decide +kernel) mc_226 400 h
-- WindBoatModel.next()V, the place 118
set_option maxRecDepth 100000 in
set_option maxHeartbeats 8000000 in
theorem f_226_118 (x2 : Int32) (μ : wm_M) (Q : Option Value → wm_M → Prop) (h : (((8 : Int32) ≤ x2 → wm_Wp 0 226 156 [.ref 89, .null, .int x2] (wm_sl μ 89 10 (-1 : Int64)) Q) ∧ (¬ (8 : Int32) ≤ x2 → wm_OkI 0 225 [.ref 89, .int (μ.1 89 7)] μ (fun r2 μ1 => wm_Wp 0 226 156 [.ref 89, .null, .int x2] (wm_sl μ1 89 10 ((((27 : Int64) * (μ.2 89 10)) + (r2).toInt64) - (96 : Int64))) Q)))) : wm_Wp 0 226 118 [.ref 89, .null, .int x2] μ Q := wm_vc mo_226 (rt := none) (by decide +kernel) mc_226 400 h
-- WindBoatModel.next()V, the place 156
set_option maxRecDepth 100000 in
set_option maxHeartbeats 8000000 in
theorem f_226_156 (x2 : Int32) (μ : wm_M) (Q : Option Value → wm_M → Prop) (h : wm_Wp 0 226 169 [.ref 89, .null, .int (x2 + (1 : Int32))] (wm_si μ 89 7 ((μ.1 89 7) + (1 : Int32))) Q) : wm_Wp 0 226 156 [.ref 89, .null, .int x2] μ Q := wm_vc mo_226 (rt := none) (by decide +kernel) mc_226 400 h
-- WindBoatModel.next()V, the place 169
set_option maxRecDepth 100000 in
set_option maxHeartbeats 8000000 in
theorem f_226_169 (x2 : Int32) (μ : wm_M) (Q : Option Value → wm_M → Prop) (h : wm_Wp 0 226 92 [.ref 89, .null, .int x2] μ Q) : wm_Wp 0 226 169 [.ref 89, .null, .int x2] μ Q := wm_vc mo_226 (rt := none) (by decide +kernel) mc_226 400 h
-- WindBoatModel.next()V, the place 172
set_option maxRecDepth 100000 in
set_option maxHeartbeats 8000000 in
theorem f_226_172 (μ : wm_M) (Q : Option Value → wm_M → Prop) (h : wm_Wp 0 226 367 [.null, .null, .null] μ Q) : wm_Wp 0 226 172 [.null, .null, .null] μ Q := wm_vc mo_226 (rt := none) (by decide +kernel) mc_226 400 h
-- WindBoatModel.next()V, the place 175
set_option maxRecDepth 100000 in
set_option maxHeartbeats 8000000 in
theorem f_226_175 (x1 : Int32) (μ : wm_M) (Q : Option Value → wm_M → Prop) (h : ((x1 < (48 : Int32) → wm_Wp 0 226 286 [.ref 89, .int x1, .null] μ Q) ∧ (¬ x1 < (48 : Int32) → (((57 : Int32) < x1 → wm_Wp 0 226 286 [.ref 89, .int x1, .null] μ Q) ∧ (¬ (57 : Int32) < x1 → wm_Wp 0 226 189 [.ref 89, .null, .int (0 : Int32)] μ Q))))) : wm_Wp 0 226 175 [.ref 89, .int x1, .null] μ Q := wm_vc mo_226 (rt := none) (by decide +kernel) mc_226 400 h
-- WindBoatModel.next()V, the place 189
set_option maxRecDepth 100000 in
set_option maxHeartbeats 8000000 in
theorem f_226_189 (x2 : Int32) (μ : wm_M) (Q : Option Value → wm_M → Prop) (h : wm_OkI 0 225 [.ref 89, .int (μ.1 89 7)] μ (fun r2 μ1 => ((r2 < (48 : Int32) → wm_Wp 0 226 269 [.ref 89, .null, .int x2] μ1 Q) ∧ (¬ r2 < (48 : Int32) → wm_Wp 0 226 202 [.ref 89, .null, .int x2] μ1 Q)))) : wm_Wp 0 226 189 [.ref 89, .null, .int x2] μ Q := wm_vc mo_226 (rt := none) (by decide +kernel) mc_226 400 h
-- WindBoatModel.next()V, the place 202
set_option maxRecDepth 100000 in
set_option maxHeartbeats 8000000 in
theorem f_226_202 (x2 : Int32) (μ : wm_M) (Q : Option Value → wm_M → Prop) (h : wm_OkI 0 225 [.ref 89, .int (μ.1 89 7)] μ (fun r2 μ1 => (((57 : Int32) < r2 → wm_Wp 0 226 269 [.ref 89, .null, .int x2] μ1 Q) ∧ (¬ (57 : Int32) < r2 → wm_Wp 0 226 215 [.ref 89, .null, .int x2] μ1 Q)))) : wm_Wp 0 226 202 [.ref 89, .null, .int x2] μ Q := wm_vc mo_226 (rt := none) (by decide +kernel) mc_226 400 h
-- WindBoatModel.next()V, the place 215
set_option maxRecDepth 100000 in
set_option maxHeartbeats 8000000 in
theorem f_226_215 (x2 : Int32) (μ : wm_M) (Q : Option Value → wm_M → Prop) (h : (((5 : Int32) ≤ x2 → wm_Wp 0 226 253 [.ref 89, .null, .int x2] (wm_sl μ 89 10 (μ.2 89 10)) Q) ∧ (¬ (5 : Int32) ≤ x2 → wm_OkI 0 225 [.ref 89, .int (μ.1 89 7)] μ (fun r2 μ1 => wm_Wp 0 226 253 [.ref 89, .null, .int x2] (wm_sl μ1 89 10 ((((10 : Int64) * (μ.2 89 10)) + (r2).toInt64) - (48 : Int64))) Q)))) : wm_Wp 0 226 215 [.ref 89, .null, .int x2] μ Q := wm_vc mo_226 (rt := none) (by decide +kernel) mc_226 400 h
-- WindBoatModel.next()V, the place 253
set_option maxRecDepth 100000 in
set_option maxHeartbeats 8000000 in
theorem f_226_253 (x2 : Int32) (μ : wm_M) (Q : Option Value → wm_M → Prop) (h : wm_Wp 0 226 266 [.ref 89, .null, .int (x2 + (1 : Int32))] (wm_si μ 89 7 ((μ.1 89 7) + (1 : Int32))) Q) : wm_Wp 0 226 253 [.ref 89, .null, .int x2] μ Q := wm_vc mo_226 (rt := none) (by decide +kernel) mc_226 400 h
-- WindBoatModel.next()V, the place 266
set_option maxRecDepth 100000 in
set_option maxHeartbeats 8000000 in
theorem f_226_266 (x2 : Int32) (μ : wm_M) (Q : Option Value → wm_M → Prop) (h : wm_Wp 0 226 189 [.ref 89, .null, .int x2] μ Q) : wm_Wp 0 226 266 [.ref 89, .null, .int x2] μ Q := wm_vc mo_226 (rt := none) (by decide +kernel) mc_226 400 h
-- WindBoatModel.next()V, the place 269
set_option maxRecDepth 100000 in
set_option maxHeartbeats 8000000 in
theorem f_226_269 (x2 : Int32) (μ : wm_M) (Q : Option Value → wm_M → Prop) (h : ((x2 ≤ (5 : Int32) → wm_Wp 0 226 283 [.null, .null, .null] (wm_si μ 89 8 (2 : Int32)) Q) ∧ (¬ x2 ≤ (5 : Int32) → wm_Wp 0 226 283 [.null, .null, .null] (wm_si μ 89 8 (4 : Int32)) Q))) : wm_Wp 0 226 269 [.ref 89, .null, .int x2] μ Q := wm_vc mo_226 (rt := none) (by decide +kernel) mc_226 400 h
-- WindBoatModel.next()V, the place 283
set_option maxRecDepth 100000 in
set_option maxHeartbeats 8000000 in
theorem f_226_283 (μ : wm_M) (Q : Option Value → wm_M → Prop) (h : wm_Wp 0 226 367 [.null, .null, .null] μ Q) : wm_Wp 0 226 283 [.null, .null, .null] μ Q := wm_vc mo_226 (rt := none) (by decide +kernel) mc_226 400 h
-- WindBoatModel.next()V, the place 286
set_option maxRecDepth 100000 in
set_option maxHeartbeats 8000000 in
theorem f_226_286 (x1 : Int32) (μ : wm_M) (Q : Option Value → wm_M → Prop) (h : ((x1 = (40 : Int32) → wm_Wp 0 226 346 [.ref 89, .int x1, .null] μ Q) ∧ (¬ x1 = (40 : Int32) → ((x1 = (41 : Int32) → wm_Wp 0 226 346 [.ref 89, .int x1, .null] μ Q) ∧ (¬ x1 = (41 : Int32) → ((x1 = (43 : Int32) → wm_Wp 0 226 346 [.ref 89, .int x1, .null] μ Q) ∧ (¬ x1 = (43 : Int32) → ((x1 = (45 : Int32) → wm_Wp 0 226 346 [.ref 89, .int x1, .null] μ Q) ∧ (¬ x1 = (45 : Int32) → wm_Wp 0 226 310 [.ref 89, .int x1, .null] μ Q))))))))) : wm_Wp 0 226 286 [.ref 89, .int x1, .null] μ Q := wm_vc mo_226 (rt := none) (by decide +kernel) mc_226 400 h
-- WindBoatModel.next()V, the place 310
set_option maxRecDepth 100000 in
set_option maxHeartbeats 8000000 in
theorem f_226_310 (x1 : Int32) (μ : wm_M) (Q : Option Value → wm_M → Prop) (h : ((x1 = (42 : Int32) → wm_Wp 0 226 346 [.ref 89, .int x1, .null] μ Q) ∧ (¬ x1 = (42 : Int32) → ((x1 = (47 : Int32) → wm_Wp 0 226 346 [.ref 89, .int x1, .null] μ Q) ∧ (¬ x1 = (47 : Int32) → ((x1 = (37 : Int32) → wm_Wp 0 226 346 [.ref 89, .int x1, .null] μ Q) ∧ (¬ x1 = (37 : Int32) → ((x1 = (61 : Int32) → wm_Wp 0 226 346 [.ref 89, .int x1, .null] μ Q) ∧ (¬ x1 = (61 : Int32) → wm_Wp 0 226 334 [.ref 89, .int x1, .null] μ Q))))))))) : wm_Wp 0 226 310 [.ref 89, .int x1, .null] μ Q := wm_vc mo_226 (rt := none) (by decide +kernel) mc_226 400 h
-- WindBoatModel.next()V, the place 334
set_option maxRecDepth 100000 in
set_option maxHeartbeats 8000000 in
theorem f_226_334 (x1 : Int32) (μ : wm_M) (Q : Option Value → wm_M → Prop) (h : ((x1 = (60 : Int32) → wm_Wp 0 226 346 [.ref 89, .int x1, .null] μ Q) ∧ (¬ x1 = (60 : Int32) → ((x1 = (62 : Int32) → wm_Wp 0 226 346 [.ref 89, .int x1, .null] μ Q) ∧ (¬ x1 = (62 : Int32) → wm_Wp 0 226 367 [.null, .null, .null] μ Q))))) : wm_Wp 0 226 334 [.ref 89, .int x1, .null] μ Q := wm_vc mo_226 (rt := none) (by decide +kernel) mc_226 400 h
-- WindBoatModel.next()V, the place 346
set_option maxRecDepth 100000 in
set_option maxHeartbeats 8000000 in
theorem f_226_346 (x1 : Int32) (μ : wm_M) (Q : Option Value → wm_M → Prop) (h : wm_Wp 0 226 351 [.ref 89, .int x1, .null] (wm_si μ 89 8 (3 : Int32)) Q) : wm_Wp 0 226 346 [.ref 89, .int x1, .null] μ Q := wm_vc mo_226 (rt := none) (by decide +kernel) mc_226 400 h
-- WindBoatModel.next()V, the place 351
set_option maxRecDepth 100000 in
set_option maxHeartbeats 8000000 in
theorem f_226_351 (x1 : Int32) (μ : wm_M) (Q : Option Value → wm_M → Prop) (h : wm_Wp 0 226 357 [.ref 89, .null, .null] (wm_sl μ 89 10 (x1).toInt64) Q) : wm_Wp 0 226 351 [.ref 89, .int x1, .null] μ Q := wm_vc mo_226 (rt := none) (by decide +kernel) mc_226 400 h
-- WindBoatModel.next()V, the place 357
set_option maxRecDepth 100000 in
set_option maxHeartbeats 8000000 in
theorem f_226_357 (μ : wm_M) (Q : Option Value → wm_M → Prop) (h : wm_Wp 0 226 367 [.null, .null, .null] (wm_si μ 89 7 ((μ.1 89 7) + (1 : Int32))) Q) : wm_Wp 0 226 357 [.ref 89, .null, .null] μ Q := wm_vc mo_226 (rt := none) (by decide +kernel) mc_226 400 h
-- WindBoatModel.next()V, the place 367
set_option maxRecDepth 100000 in
set_option maxHeartbeats 8000000 in
theorem f_226_367 (μ : wm_M) (Q : Option Value → wm_M → Prop) (h : Q none μ) : wm_Wp 0 226 367 [.null, .null, .null] μ Q := wm_vc mo_226 (rt := none) (by decide +kernel) mc_226 400 h
-- WindBoatModel.fail()V
set_option maxRecDepth 100000 in
set_option maxHeartbeats 8000000 in
theorem f_227 (μ : wm_M) (Q : Option Value → wm_M → Prop) (h : (((μ.1 89 12) = (0 : Int32) → (((1 : Int32) = 0 ∨ (1 : Int32) = 1) ∧ wm_Wp 0 227 12 [.ref 89] (wm_si μ 89 12 (1 : Int32)) Q)) ∧ (¬ (μ.1 89 12) = (0 : Int32) → wm_Wp 0 227 20 [.null] μ Q))) : wm_Ok 0 227 [.ref 89] μ Q := wm_ent (nL := 1) (l := [.ref 89]) (by decide +kernel) (by decide +kernel) (by decide +kernel) rfl rfl (wm_vc mo_227 (rt := none) (by decide +kernel) mc_227 42 h)
-- WindBoatModel.fail()V, the place 12
set_option maxRecDepth 100000 in
set_option maxHeartbeats 8000000 in
theorem f_227_12 (μ : wm_M) (Q : Option Value → wm_M → Prop) (h : wm_Wp 0 227 20 [.null] (wm_si μ 89 13 (μ.1 89 9)) Q) : wm_Wp 0 227 12 [.ref 89] μ Q := wm_vc mo_227 (rt := none) (by decide +kernel) mc_227 42 h
-- WindBoatModel.fail()V, the place 20
set_option maxRecDepth 100000 in
set_option maxHeartbeats 8000000 in
theorem f_227_20 (μ : wm_M) (Q : Option Value → wm_M → Prop) (h : Q none μ) : wm_Wp 0 227 20 [.null] μ Q := wm_vc mo_227 (rt := none) (by decide +kernel) mc_227 42 h
-- WindBoatModel.isWord(J)Z
set_option maxRecDepth 100000 in
set_option maxHeartbeats 8000000 in
theorem f_228 (a1 : Int64) (μ : wm_M) (Q : Option Value → wm_M → Prop) (h : (((μ.1 89 12) = (0 : Int32) → (((μ.1 89 8) = (1 : Int32) → (((lg_cmp (μ.2 89 10) a1) = (0 : Int32) → wm_Wp 0 228 24 [.null, .null, .null] μ Q) ∧ (¬ (lg_cmp (μ.2 89 10) a1) = (0 : Int32) → wm_Wp 0 228 28 [.null, .null, .null] μ Q))) ∧ (¬ (μ.1 89 8) = (1 : Int32) → wm_Wp 0 228 28 [.null, .null, .null] μ Q))) ∧ (¬ (μ.1 89 12) = (0 : Int32) → wm_Wp 0 228 28 [.null, .null, .null] μ Q))) : wm_Ok 0 228 [.ref 89, .long a1] μ Q := wm_ent (nL := 3) (l := [.ref 89, .long a1, .null]) (by decide +kernel) (by decide +kernel) (by decide +kernel) rfl rfl (wm_vc mo_228 (rt := some .boolean) (by decide +kernel) mc_228 52 h)
-- WindBoatModel.isWord(J)Z, the place 24
set_option maxRecDepth 100000 in
set_option maxHeartbeats 8000000 in
theorem f_228_24 (μ : wm_M) (Q : Option Value → wm_M → Prop) (h : (((1 : Int32) = 0 ∨ (1 : Int32) = 1) ∧ Q (some (.int (1 : Int32))) μ)) : wm_Wp 0 228 24 [.null, .null, .null] μ Q := wm_vc mo_228 (rt := some .boolean) (by decide +kernel) mc_228 52 h
-- WindBoatModel.isWord(J)Z, the place 28
set_option maxRecDepth 100000 in
set_option maxHeartbeats 8000000 in
theorem f_228_28 (μ : wm_M) (Q : Option Value → wm_M → Prop) (h : (((0 : Int32) = 0 ∨ (0 : Int32) = 1) ∧ Q (some (.int (0 : Int32))) μ)) : wm_Wp 0 228 28 [.null, .null, .null] μ Q := wm_vc mo_228 (rt := some .boolean) (by decide +kernel) mc_228 52 h
-- WindBoatModel.isSign(I)Z
set_option maxRecDepth 100000 in
set_option maxHeartbeats 8000000 in
theorem f_229 (a1 : Int32) (μ : wm_M) (Q : Option Value → wm_M → Prop) (h : (((μ.1 89 12) = (0 : Int32) → (((μ.1 89 8) = (3 : Int32) → (((lg_cmp (μ.2 89 10) (a1).toInt64) = (0 : Int32) → wm_Wp 0 229 25 [.null, .null] μ Q) ∧ (¬ (lg_cmp (μ.2 89 10) (a1).toInt64) = (0 : Int32) → wm_Wp 0 229 29 [.null, .null] μ Q))) ∧ (¬ (μ.1 89 8) = (3 : Int32) → wm_Wp 0 229 29 [.null, .null] μ Q))) ∧ (¬ (μ.1 89 12) = (0 : Int32) → wm_Wp 0 229 29 [.null, .null] μ Q))) : wm_Ok 0 229 [.ref 89, .int a1] μ Q := wm_ent (nL := 2) (l := [.ref 89, .int a1]) (by decide +kernel) (by decide +kernel) (by decide +kernel) rfl rfl (wm_vc mo_229 (rt := some .boolean) (by decide +kernel) mc_229 54 h)
-- WindBoatModel.isSign(I)Z, the place 25
set_option maxRecDepth 100000 in
set_option maxHeartbeats 8000000 in
theorem f_229_25 (μ : wm_M) (Q : Option Value → wm_M → Prop) (h : (((1 : Int32) = 0 ∨ (1 : Int32) = 1) ∧ Q (some (.int (1 : Int32))) μ)) : wm_Wp 0 229 25 [.null, .null] μ Q := wm_vc mo_229 (rt := some .boolean) (by decide +kernel) mc_229 54 h
-- WindBoatModel.isSign(I)Z, the place 29
set_option maxRecDepth 100000 in
set_option maxHeartbeats 8000000 in
theorem f_229_29 (μ : wm_M) (Q : Option Value → wm_M → Prop) (h : (((0 : Int32) = 0 ∨ (0 : Int32) = 1) ∧ Q (some (.int (0 : Int32))) μ)) : wm_Wp 0 229 29 [.null, .null] μ Q := wm_vc mo_229 (rt := some .boolean) (by decide +kernel) mc_229 54 h
-- WindBoatModel.opens()Z
set_option maxRecDepth 100000 in
set_option maxHeartbeats 8000000 in
theorem f_230 (μ : wm_M) (Q : Option Value → wm_M → Prop) (h : (((μ.1 89 11) = (6 : Int32) → wm_OkV 0 227 [.ref 89] μ (fun μ1 => wm_Wp 0 230 13 [.null] μ1 Q)) ∧ (¬ (μ.1 89 11) = (6 : Int32) → wm_Wp 0 230 15 [.ref 89] μ Q))) : wm_Ok 0 230 [.ref 89] μ Q := wm_ent (nL := 1) (l := [.ref 89]) (by decide +kernel) (by decide +kernel) (by decide +kernel) rfl rfl (wm_vc mo_230 (rt := some .boolean) (by decide +kernel) mc_230 56 h)
-- WindBoatModel.opens()Z, the place 13
set_option maxRecDepth 100000 in
set_option maxHeartbeats 8000000 in
theorem f_230_13 (μ : wm_M) (Q : Option Value → wm_M → Prop) (h : (((0 : Int32) = 0 ∨ (0 : Int32) = 1) ∧ Q (some (.int (0 : Int32))) μ)) : wm_Wp 0 230 13 [.null] μ Q := wm_vc mo_230 (rt := some .boolean) (by decide +kernel) mc_230 56 h
-- WindBoatModel.opens()Z, the place 15
set_option maxRecDepth 100000 in
set_option maxHeartbeats 8000000 in
theorem f_230_15 (μ : wm_M) (Q : Option Value → wm_M → Prop) (h : wm_Wp 0 230 25 [.ref 89] (wm_si μ 89 11 ((μ.1 89 11) + (1 : Int32))) Q) : wm_Wp 0 230 15 [.ref 89] μ Q := wm_vc mo_230 (rt := some .boolean) (by decide +kernel) mc_230 56 h
-- WindBoatModel.opens()Z, the place 25
set_option maxRecDepth 100000 in
set_option maxHeartbeats 8000000 in
theorem f_230_25 (μ : wm_M) (Q : Option Value → wm_M → Prop) (h : wm_OkV 0 226 [.ref 89] μ (fun μ1 => wm_Wp 0 230 29 [.null] μ1 Q)) : wm_Wp 0 230 25 [.ref 89] μ Q := wm_vc mo_230 (rt := some .boolean) (by decide +kernel) mc_230 56 h
-- WindBoatModel.opens()Z, the place 29
set_option maxRecDepth 100000 in
set_option maxHeartbeats 8000000 in
theorem f_230_29 (μ : wm_M) (Q : Option Value → wm_M → Prop) (h : (((1 : Int32) = 0 ∨ (1 : Int32) = 1) ∧ Q (some (.int (1 : Int32))) μ)) : wm_Wp 0 230 29 [.null] μ Q := wm_vc mo_230 (rt := some .boolean) (by decide +kernel) mc_230 56 h
-- WindBoatModel.name()I
set_option maxRecDepth 100000 in
set_option maxHeartbeats 8000000 in
theorem f_231 (μ : wm_M) (Q : Option Value → wm_M → Prop) (h : wm_OkI 0 228 [.ref 89, .long (63030 : Int64)] μ (fun r2 μ1 => ((r2 = (0 : Int32) → wm_Wp 0 231 15 [.ref 89] μ1 Q) ∧ (¬ r2 = (0 : Int32) → wm_Wp 0 231 10 [.ref 89] μ1 Q)))) : wm_Ok 0 231 [.ref 89] μ Q := wm_ent (nL := 1) (l := [.ref 89]) (by decide +kernel) (by decide +kernel) (by decide +kernel) rfl rfl (wm_vc mo_231 (rt := some .int) (by decide +kernel) mc_231 152 h)
-- WindBoatModel.name()I, the place 10
set_option maxRecDepth 100000 in
set_option maxHeartbeats 8000000 in
theorem f_231_10 (μ : wm_M) (Q : Option Value → wm_M → Prop) (h : Q (some (.int (μ.1 89 14))) μ) : wm_Wp 0 231 10 [.ref 89] μ Q := wm_vc mo_231 (rt := some .int) (by decide +kernel) mc_231 152 h
-- WindBoatModel.name()I, the place 15
set_option maxRecDepth 100000 in
set_option maxHeartbeats 8000000 in
theorem f_231_15 (μ : wm_M) (Q : Option Value → wm_M → Prop) (h : wm_OkI 0 228 [.ref 89, .long (13550 : Int64)] μ (fun r2 μ1 => ((r2 = (0 : Int32) → wm_Wp 0 231 33 [.ref 89] μ1 Q) ∧ (¬ r2 = (0 : Int32) → wm_Wp 0 231 25 [.ref 89] μ1 Q)))) : wm_Wp 0 231 15 [.ref 89] μ Q := wm_vc mo_231 (rt := some .int) (by decide +kernel) mc_231 152 h
-- WindBoatModel.name()I, the place 25
set_option maxRecDepth 100000 in
set_option maxHeartbeats 8000000 in
theorem f_231_25 (μ : wm_M) (Q : Option Value → wm_M → Prop) (h : (¬ (6 : Int32) = 0 ∧ Q (some (.int ((μ.1 89 14) / (6 : Int32)))) μ)) : wm_Wp 0 231 25 [.ref 89] μ Q := wm_vc mo_231 (rt := some .int) (by decide +kernel) mc_231 152 h
-- WindBoatModel.name()I, the place 33
set_option maxRecDepth 100000 in
set_option maxHeartbeats 8000000 in
theorem f_231_33 (μ : wm_M) (Q : Option Value → wm_M → Prop) (h : wm_OkI 0 228 [.ref 89, .long (168984 : Int64)] μ (fun r2 μ1 => ((r2 = (0 : Int32) → wm_Wp 0 231 48 [.ref 89] μ1 Q) ∧ (¬ r2 = (0 : Int32) → wm_Wp 0 231 43 [.ref 89] μ1 Q)))) : wm_Wp 0 231 33 [.ref 89] μ Q := wm_vc mo_231 (rt := some .int) (by decide +kernel) mc_231 152 h
-- WindBoatModel.name()I, the place 43
set_option maxRecDepth 100000 in
set_option maxHeartbeats 8000000 in
theorem f_231_43 (μ : wm_M) (Q : Option Value → wm_M → Prop) (h : Q (some (.int (μ.1 89 16))) μ) : wm_Wp 0 231 43 [.ref 89] μ Q := wm_vc mo_231 (rt := some .int) (by decide +kernel) mc_231 152 h
-- WindBoatModel.name()I, the place 48
set_option maxRecDepth 100000 in
set_option maxHeartbeats 8000000 in
theorem f_231_48 (μ : wm_M) (Q : Option Value → wm_M → Prop) (h : wm_OkI 0 228 [.ref 89, .long (374961 : Int64)] μ (fun r2 μ1 => ((r2 = (0 : Int32) → wm_Wp 0 231 88 [.ref 89] μ1 Q) ∧ (¬ r2 = (0 : Int32) → wm_Wp 0 231 58 [.ref 89] μ1 Q)))) : wm_Wp 0 231 48 [.ref 89] μ Q := wm_vc mo_231 (rt := some .int) (by decide +kernel) mc_231 152 h
-- WindBoatModel.name()I, the place 58
set_option maxRecDepth 100000 in
set_option maxHeartbeats 8000000 in
theorem f_231_58 (μ : wm_M) (Q : Option Value → wm_M → Prop) (h : wm_OkI 0 188 [.ref 89, .int (0 : Int32)] μ (fun r2 μ1 => ((r2 ≤ (μ.1 89 15) → wm_Wp 0 231 86 [.null] μ1 Q) ∧ (¬ r2 ≤ (μ.1 89 15) → wm_Wp 0 231 70 [.ref 89] μ1 Q)))) : wm_Wp 0 231 58 [.ref 89] μ Q := wm_vc mo_231 (rt := some .int) (by decide +kernel) mc_231 152 h
-- WindBoatModel.name()I, the place 70
set_option maxRecDepth 100000 in
set_option maxHeartbeats 8000000 in
theorem f_231_70 (μ : wm_M) (Q : Option Value → wm_M → Prop) (h : (vp_in ((449 : Int32) + (μ.1 89 15)) 2060 ∧ Q (some (.int (μ.1 91 (((449 : Int32) + (μ.1 89 15))).toNatClampNeg))) μ)) : wm_Wp 0 231 70 [.ref 89] μ Q := wm_vc mo_231 (rt := some .int) (by decide +kernel) mc_231 152 h
-- WindBoatModel.name()I, the place 86
set_option maxRecDepth 100000 in
set_option maxHeartbeats 8000000 in
theorem f_231_86 (μ : wm_M) (Q : Option Value → wm_M → Prop) (h : Q (some (.int (0 : Int32))) μ) : wm_Wp 0 231 86 [.null] μ Q := wm_vc mo_231 (rt := some .int) (by decide +kernel) mc_231 152 h
-- WindBoatModel.name()I, the place 88
set_option maxRecDepth 100000 in
set_option maxHeartbeats 8000000 in
theorem f_231_88 (μ : wm_M) (Q : Option Value → wm_M → Prop) (h : wm_OkI 0 228 [.ref 89, .long (7478688681 : Int64)] μ (fun r2 μ1 => ((r2 = (0 : Int32) → wm_Wp 0 231 111 [.ref 89] μ1 Q) ∧ (¬ r2 = (0 : Int32) → wm_Wp 0 231 98 [.ref 89] μ1 Q)))) : wm_Wp 0 231 88 [.ref 89] μ Q := wm_vc mo_231 (rt := some .int) (by decide +kernel) mc_231 152 h
-- WindBoatModel.name()I, the place 98
set_option maxRecDepth 100000 in
set_option maxHeartbeats 8000000 in
theorem f_231_98 (μ : wm_M) (Q : Option Value → wm_M → Prop) (h : (vp_in ((36 : Int32) + (μ.1 89 14)) 2060 ∧ Q (some (.int (μ.1 91 (((36 : Int32) + (μ.1 89 14))).toNatClampNeg))) μ)) : wm_Wp 0 231 98 [.ref 89] μ Q := wm_vc mo_231 (rt := some .int) (by decide +kernel) mc_231 152 h
-- WindBoatModel.name()I, the place 111
set_option maxRecDepth 100000 in
set_option maxHeartbeats 8000000 in
theorem f_231_111 (μ : wm_M) (Q : Option Value → wm_M → Prop) (h : wm_OkI 0 228 [.ref 89, .long (4281544 : Int64)] μ (fun r2 μ1 => ((r2 = (0 : Int32) → wm_Wp 0 231 126 [.ref 89] μ1 Q) ∧ (¬ r2 = (0 : Int32) → wm_Wp 0 231 121 [.ref 89] μ1 Q)))) : wm_Wp 0 231 111 [.ref 89] μ Q := wm_vc mo_231 (rt := some .int) (by decide +kernel) mc_231 152 h
-- WindBoatModel.name()I, the place 121
set_option maxRecDepth 100000 in
set_option maxHeartbeats 8000000 in
theorem f_231_121 (μ : wm_M) (Q : Option Value → wm_M → Prop) (h : wm_OkI 0 220 [.ref 89] μ (fun r2 μ1 => Q (some (.int r2)) μ1)) : wm_Wp 0 231 121 [.ref 89] μ Q := wm_vc mo_231 (rt := some .int) (by decide +kernel) mc_231 152 h
-- WindBoatModel.name()I, the place 126
set_option maxRecDepth 100000 in
set_option maxHeartbeats 8000000 in
theorem f_231_126 (μ : wm_M) (Q : Option Value → wm_M → Prop) (h : wm_OkV 0 227 [.ref 89] μ (fun μ1 => wm_Wp 0 231 130 [.null] μ1 Q)) : wm_Wp 0 231 126 [.ref 89] μ Q := wm_vc mo_231 (rt := some .int) (by decide +kernel) mc_231 152 h
-- WindBoatModel.name()I, the place 130
set_option maxRecDepth 100000 in
set_option maxHeartbeats 8000000 in
theorem f_231_130 (μ : wm_M) (Q : Option Value → wm_M → Prop) (h : Q (some (.int (0 : Int32))) μ) : wm_Wp 0 231 130 [.null] μ Q := wm_vc mo_231 (rt := some .int) (by decide +kernel) mc_231 152 h
-- WindBoatModel.one()I
set_option maxRecDepth 100000 in
set_option maxHeartbeats 8000000 in
theorem f_232 {e : Nat} (μ : wm_M) (Q : Option Value → wm_M → Prop) (h : wm_OkI 0 229 [.ref 89, .int (45 : Int32)] μ (fun r2 μ1 => ((r2 = (0 : Int32) → wm_Wp (e + 1) 232 37 [.ref 89, .int (0 : Int32)] μ1 Q) ∧ (¬ r2 = (0 : Int32) → wm_Wp (e + 1) 232 11 [.ref 89, .int (0 : Int32)] μ1 Q)))) : wm_Ok (e + 1) 232 [.ref 89] μ Q := wm_ent (nL := 2) (l := [.ref 89, .null]) (by decide +kernel) (by decide +kernel) (by decide +kernel) rfl rfl (wm_vc mo_232 (rt := some .int) (by decide +kernel) mc_232 184 h)
-- WindBoatModel.one()I, the place 11
set_option maxRecDepth 100000 in
set_option maxHeartbeats 8000000 in
theorem f_232_11 {e : Nat} (x1 : Int32) (μ : wm_M) (Q : Option Value → wm_M → Prop) (h : wm_OkI 0 230 [.ref 89] μ (fun r2 μ1 => ((r2 = (0 : Int32) → wm_Wp (e + 1) 232 161 [.null, .int x1] μ1 Q) ∧ (¬ r2 = (0 : Int32) → wm_Wp (e + 1) 232 18 [.ref 89, .null] μ1 Q)))) : wm_Wp (e + 1) 232 11 [.ref 89, .int x1] μ Q := wm_vc mo_232 (rt := some .int) (by decide +kernel) mc_232 184 h
-- WindBoatModel.one()I, the place 18
set_option maxRecDepth 100000 in
set_option maxHeartbeats 8000000 in
theorem f_232_18 {e : Nat} (μ : wm_M) (Q : Option Value → wm_M → Prop) (h : wm_OkI e 232 [.ref 89] μ (fun r2 μ1 => wm_Wp (e + 1) 232 24 [.ref 89, .int (-r2)] μ1 Q)) : wm_Wp (e + 1) 232 18 [.ref 89, .null] μ Q := wm_vc mo_232 (rt := some .int) (by decide +kernel) mc_232 184 h
-- WindBoatModel.one()I, the place 24
set_option maxRecDepth 100000 in
set_option maxHeartbeats 8000000 in
theorem f_232_24 {e : Nat} (x1 : Int32) (μ : wm_M) (Q : Option Value → wm_M → Prop) (h : wm_Wp (e + 1) 232 34 [.null, .int x1] (wm_si μ 89 11 ((μ.1 89 11) - (1 : Int32))) Q) : wm_Wp (e + 1) 232 24 [.ref 89, .int x1] μ Q := wm_vc mo_232 (rt := some .int) (by decide +kernel) mc_232 184 h
-- WindBoatModel.one()I, the place 34
set_option maxRecDepth 100000 in
set_option maxHeartbeats 8000000 in
theorem f_232_34 {e : Nat} (x1 : Int32) (μ : wm_M) (Q : Option Value → wm_M → Prop) (h : wm_Wp (e + 1) 232 161 [.null, .int x1] μ Q) : wm_Wp (e + 1) 232 34 [.null, .int x1] μ Q := wm_vc mo_232 (rt := some .int) (by decide +kernel) mc_232 184 h
-- WindBoatModel.one()I, the place 37
set_option maxRecDepth 100000 in
set_option maxHeartbeats 8000000 in
theorem f_232_37 {e : Nat} (x1 : Int32) (μ : wm_M) (Q : Option Value → wm_M → Prop) (h : wm_OkI 0 229 [.ref 89, .int (40 : Int32)] μ (fun r2 μ1 => ((r2 = (0 : Int32) → wm_Wp (e + 1) 232 95 [.ref 89, .int x1] μ1 Q) ∧ (¬ r2 = (0 : Int32) → wm_Wp (e + 1) 232 46 [.ref 89, .int x1] μ1 Q)))) : wm_Wp (e + 1) 232 37 [.ref 89, .int x1] μ Q := wm_vc mo_232 (rt := some .int) (by decide +kernel) mc_232 184 h
-- WindBoatModel.one()I, the place 46
set_option maxRecDepth 100000 in
set_option maxHeartbeats 8000000 in
theorem f_232_46 {e : Nat} (x1 : Int32) (μ : wm_M) (Q : Option Value → wm_M → Prop) (h : wm_OkI 0 230 [.ref 89] μ (fun r2 μ1 => ((r2 = (0 : Int32) → wm_Wp (e + 1) 232 161 [.null, .int x1] μ1 Q) ∧ (¬ r2 = (0 : Int32) → wm_Wp (e + 1) 232 53 [.ref 89, .null] μ1 Q)))) : wm_Wp (e + 1) 232 46 [.ref 89, .int x1] μ Q := wm_vc mo_232 (rt := some .int) (by decide +kernel) mc_232 184 h
-- WindBoatModel.one()I, the place 53
set_option maxRecDepth 100000 in
set_option maxHeartbeats 8000000 in
theorem f_232_53 {e : Nat} (μ : wm_M) (Q : Option Value → wm_M → Prop) (h : wm_OkI e 237 [.ref 89] μ (fun r2 μ1 => wm_Wp (e + 1) 232 58 [.ref 89, .int r2] μ1 Q)) : wm_Wp (e + 1) 232 53 [.ref 89, .null] μ Q := wm_vc mo_232 (rt := some .int) (by decide +kernel) mc_232 184 h
-- WindBoatModel.one()I, the place 58
set_option maxRecDepth 100000 in
set_option maxHeartbeats 8000000 in
theorem f_232_58 {e : Nat} (x1 : Int32) (μ : wm_M) (Q : Option Value → wm_M → Prop) (h : wm_OkI 0 229 [.ref 89, .int (41 : Int32)] μ (fun r2 μ1 => ((r2 = (0 : Int32) → wm_Wp (e + 1) 232 67 [.ref 89, .int x1] μ1 Q) ∧ (¬ r2 = (0 : Int32) → wm_Wp (e + 1) 232 71 [.ref 89, .int x1] μ1 Q)))) : wm_Wp (e + 1) 232 58 [.ref 89, .int x1] μ Q := wm_vc mo_232 (rt := some .int) (by decide +kernel) mc_232 184 h
-- WindBoatModel.one()I, the place 67
set_option maxRecDepth 100000 in
set_option maxHeartbeats 8000000 in
theorem f_232_67 {e : Nat} (x1 : Int32) (μ : wm_M) (Q : Option Value → wm_M → Prop) (h : wm_OkV 0 227 [.ref 89] μ (fun μ1 => wm_Wp (e + 1) 232 71 [.ref 89, .int x1] μ1 Q)) : wm_Wp (e + 1) 232 67 [.ref 89, .int x1] μ Q := wm_vc mo_232 (rt := some .int) (by decide +kernel) mc_232 184 h
-- WindBoatModel.one()I, the place 71
set_option maxRecDepth 100000 in
set_option maxHeartbeats 8000000 in
theorem f_232_71 {e : Nat} (x1 : Int32) (μ : wm_M) (Q : Option Value → wm_M → Prop) (h : wm_Wp (e + 1) 232 81 [.ref 89, .int x1] (wm_si μ 89 11 ((μ.1 89 11) - (1 : Int32))) Q) : wm_Wp (e + 1) 232 71 [.ref 89, .int x1] μ Q := wm_vc mo_232 (rt := some .int) (by decide +kernel) mc_232 184 h
-- WindBoatModel.one()I, the place 81
set_option maxRecDepth 100000 in
set_option maxHeartbeats 8000000 in
theorem f_232_81 {e : Nat} (x1 : Int32) (μ : wm_M) (Q : Option Value → wm_M → Prop) (h : (((μ.1 89 12) = (0 : Int32) → wm_OkV 0 226 [.ref 89] μ (fun μ1 => wm_Wp (e + 1) 232 92 [.null, .int x1] μ1 Q)) ∧ (¬ (μ.1 89 12) = (0 : Int32) → wm_Wp (e + 1) 232 161 [.null, .int x1] μ Q))) : wm_Wp (e + 1) 232 81 [.ref 89, .int x1] μ Q := wm_vc mo_232 (rt := some .int) (by decide +kernel) mc_232 184 h
-- WindBoatModel.one()I, the place 92
set_option maxRecDepth 100000 in
set_option maxHeartbeats 8000000 in
theorem f_232_92 {e : Nat} (x1 : Int32) (μ : wm_M) (Q : Option Value → wm_M → Prop) (h : wm_Wp (e + 1) 232 161 [.null, .int x1] μ Q) : wm_Wp (e + 1) 232 92 [.null, .int x1] μ Q := wm_vc mo_232 (rt := some .int) (by decide +kernel) mc_232 184 h
-- WindBoatModel.one()I, the place 95
set_option maxRecDepth 100000 in
set_option maxHeartbeats 8000000 in
theorem f_232_95 {e : Nat} (x1 : Int32) (μ : wm_M) (Q : Option Value → wm_M → Prop) (h : (((μ.1 89 12) = (0 : Int32) → (((μ.1 89 8) = (2 : Int32) → wm_OkV 0 226 [.ref 89] μ (fun μ1 => wm_Wp (e + 1) 232 120 [.null, .int ((μ.2 89 10)).toInt32] μ1 Q)) ∧ (¬ (μ.1 89 8) = (2 : Int32) → wm_Wp (e + 1) 232 123 [.ref 89, .int x1] μ Q))) ∧ (¬ (μ.1 89 12) = (0 : Int32) → wm_Wp (e + 1) 232 123 [.ref 89, .int x1] μ Q))) : wm_Wp (e + 1) 232 95 [.ref 89, .int x1] μ Q := wm_vc mo_232 (rt := some .int) (by decide +kernel) mc_232 184 h
-- WindBoatModel.one()I, the place 120
set_option maxRecDepth 100000 in
set_option maxHeartbeats 8000000 in
theorem f_232_120 {e : Nat} (x1 : Int32) (μ : wm_M) (Q : Option Value → wm_M → Prop) (h : wm_Wp (e + 1) 232 161 [.null, .int x1] μ Q) : wm_Wp (e + 1) 232 120 [.null, .int x1] μ Q := wm_vc mo_232 (rt := some .int) (by decide +kernel) mc_232 184 h
-- WindBoatModel.one()I, the place 123
set_option maxRecDepth 100000 in
set_option maxHeartbeats 8000000 in
theorem f_232_123 {e : Nat} (x1 : Int32) (μ : wm_M) (Q : Option Value → wm_M → Prop) (h : (((μ.1 89 12) = (0 : Int32) → (((μ.1 89 8) = (1 : Int32) → wm_OkI 0 231 [.ref 89] μ (fun r2 μ1 => wm_Wp (e + 1) 232 143 [.ref 89, .int r2] μ1 Q)) ∧ (¬ (μ.1 89 8) = (1 : Int32) → wm_Wp (e + 1) 232 157 [.ref 89, .int x1] μ Q))) ∧ (¬ (μ.1 89 12) = (0 : Int32) → wm_Wp (e + 1) 232 157 [.ref 89, .int x1] μ Q))) : wm_Wp (e + 1) 232 123 [.ref 89, .int x1] μ Q := wm_vc mo_232 (rt := some .int) (by decide +kernel) mc_232 184 h
-- WindBoatModel.one()I, the place 143
set_option maxRecDepth 100000 in
set_option maxHeartbeats 8000000 in
theorem f_232_143 {e : Nat} (x1 : Int32) (μ : wm_M) (Q : Option Value → wm_M → Prop) (h : (((μ.1 89 12) = (0 : Int32) → wm_OkV 0 226 [.ref 89] μ (fun μ1 => wm_Wp (e + 1) 232 154 [.null, .int x1] μ1 Q)) ∧ (¬ (μ.1 89 12) = (0 : Int32) → wm_Wp (e + 1) 232 161 [.null, .int x1] μ Q))) : wm_Wp (e + 1) 232 143 [.ref 89, .int x1] μ Q := wm_vc mo_232 (rt := some .int) (by decide +kernel) mc_232 184 h
-- WindBoatModel.one()I, the place 154
set_option maxRecDepth 100000 in
set_option maxHeartbeats 8000000 in
theorem f_232_154 {e : Nat} (x1 : Int32) (μ : wm_M) (Q : Option Value → wm_M → Prop) (h : wm_Wp (e + 1) 232 161 [.null, .int x1] μ Q) : wm_Wp (e + 1) 232 154 [.null, .int x1] μ Q := wm_vc mo_232 (rt := some .int) (by decide +kernel) mc_232 184 h
-- WindBoatModel.one()I, the place 157
set_option maxRecDepth 100000 in
set_option maxHeartbeats 8000000 in
theorem f_232_157 {e : Nat} (x1 : Int32) (μ : wm_M) (Q : Option Value → wm_M → Prop) (h : wm_OkV 0 227 [.ref 89] μ (fun μ1 => wm_Wp (e + 1) 232 161 [.null, .int x1] μ1 Q)) : wm_Wp (e + 1) 232 157 [.ref 89, .int x1] μ Q := wm_vc mo_232 (rt := some .int) (by decide +kernel) mc_232 184 h
-- WindBoatModel.one()I, the place 161
set_option maxRecDepth 100000 in
set_option maxHeartbeats 8000000 in
theorem f_232_161 {e : Nat} (x1 : Int32) (μ : wm_M) (Q : Option Value → wm_M → Prop) (h : Q (some (.int x1)) μ) : wm_Wp (e + 1) 232 161 [.null, .int x1] μ Q := wm_vc mo_232 (rt := some .int) (by decide +kernel) mc_232 184 h
-- WindBoatModel.term()I
set_option maxRecDepth 100000 in
set_option maxHeartbeats 8000000 in
theorem f_233 {e : Nat} (μ : wm_M) (Q : Option Value → wm_M → Prop) (h : wm_OkI e 232 [.ref 89] μ (fun r2 μ1 => wm_Wp e 233 5 [.ref 89, .int r2, .null, .null, .null] μ1 Q)) : wm_Ok e 233 [.ref 89] μ Q := wm_ent (nL := 5) (l := [.ref 89, .null, .null, .null, .null]) (by decide +kernel) (by decide +kernel) (by decide +kernel) rfl rfl (wm_vc mo_233 (rt := some .int) (by decide +kernel) mc_233 120 h)
-- WindBoatModel.term()I, the place 5
set_option maxRecDepth 100000 in
set_option maxHeartbeats 8000000 in
theorem f_233_5 {e : Nat} (x1 : Int32) (μ : wm_M) (Q : Option Value → wm_M → Prop) (h : wm_OkI 0 229 [.ref 89, .int (42 : Int32)] μ (fun r2 μ1 => ((r2 = (0 : Int32) → wm_Wp e 233 14 [.ref 89, .int x1, .null, .null, .null] μ1 Q) ∧ (¬ r2 = (0 : Int32) → wm_Wp e 233 32 [.ref 89, .int x1, .null, .null, .null] μ1 Q)))) : wm_Wp e 233 5 [.ref 89, .int x1, .null, .null, .null] μ Q := wm_vc mo_233 (rt := some .int) (by decide +kernel) mc_233 120 h
-- WindBoatModel.term()I, the place 14
set_option maxRecDepth 100000 in
set_option maxHeartbeats 8000000 in
theorem f_233_14 {e : Nat} (x1 : Int32) (μ : wm_M) (Q : Option Value → wm_M → Prop) (h : wm_OkI 0 229 [.ref 89, .int (47 : Int32)] μ (fun r2 μ1 => ((r2 = (0 : Int32) → wm_Wp e 233 23 [.ref 89, .int x1, .null, .null, .null] μ1 Q) ∧ (¬ r2 = (0 : Int32) → wm_Wp e 233 32 [.ref 89, .int x1, .null, .null, .null] μ1 Q)))) : wm_Wp e 233 14 [.ref 89, .int x1, .null, .null, .null] μ Q := wm_vc mo_233 (rt := some .int) (by decide +kernel) mc_233 120 h
-- WindBoatModel.term()I, the place 23
set_option maxRecDepth 100000 in
set_option maxHeartbeats 8000000 in
theorem f_233_23 {e : Nat} (x1 : Int32) (μ : wm_M) (Q : Option Value → wm_M → Prop) (h : wm_OkI 0 229 [.ref 89, .int (37 : Int32)] μ (fun r2 μ1 => ((r2 = (0 : Int32) → wm_Wp e 233 94 [.null, .int x1, .null, .null, .null] μ1 Q) ∧ (¬ r2 = (0 : Int32) → wm_Wp e 233 32 [.ref 89, .int x1, .null, .null, .null] μ1 Q)))) : wm_Wp e 233 23 [.ref 89, .int x1, .null, .null, .null] μ Q := wm_vc mo_233 (rt := some .int) (by decide +kernel) mc_233 120 h
-- WindBoatModel.term()I, the place 32
set_option maxRecDepth 100000 in
set_option maxHeartbeats 8000000 in
theorem f_233_32 {e : Nat} (x1 : Int32) (μ : wm_M) (Q : Option Value → wm_M → Prop) (h : wm_OkV 0 226 [.ref 89] μ (fun μ1 => wm_Wp e 233 41 [.ref 89, .int x1, .long (μ.2 89 10), .null, .null] μ1 Q)) : wm_Wp e 233 32 [.ref 89, .int x1, .null, .null, .null] μ Q := wm_vc mo_233 (rt := some .int) (by decide +kernel) mc_233 120 h
-- WindBoatModel.term()I, the place 41
set_option maxRecDepth 100000 in
set_option maxHeartbeats 8000000 in
theorem f_233_41 {e : Nat} (x1 : Int32) (x2 : Int64) (μ : wm_M) (Q : Option Value → wm_M → Prop) (h : wm_OkI e 232 [.ref 89] μ (fun r2 μ1 => wm_Wp e 233 47 [.ref 89, .int x1, .long x2, .null, .int r2] μ1 Q)) : wm_Wp e 233 41 [.ref 89, .int x1, .long x2, .null, .null] μ Q := wm_vc mo_233 (rt := some .int) (by decide +kernel) mc_233 120 h
-- WindBoatModel.term()I, the place 47
set_option maxRecDepth 100000 in
set_option maxHeartbeats 8000000 in
theorem f_233_47 {e : Nat} (x1 : Int32) (x2 : Int64) (x4 : Int32) (μ : wm_M) (Q : Option Value → wm_M → Prop) (h : (((lg_cmp x2 (42 : Int64)) = (0 : Int32) → wm_Wp e 233 5 [.ref 89, .int (x1 * x4), .null, .null, .null] μ Q) ∧ (¬ (lg_cmp x2 (42 : Int64)) = (0 : Int32) → wm_Wp e 233 62 [.ref 89, .int x1, .long x2, .null, .int x4] μ Q))) : wm_Wp e 233 47 [.ref 89, .int x1, .long x2, .null, .int x4] μ Q := wm_vc mo_233 (rt := some .int) (by decide +kernel) mc_233 120 h
-- WindBoatModel.term()I, the place 62
set_option maxRecDepth 100000 in
set_option maxHeartbeats 8000000 in
theorem f_233_62 {e : Nat} (x1 : Int32) (x2 : Int64) (x4 : Int32) (μ : wm_M) (Q : Option Value → wm_M → Prop) (h : ((x4 = (0 : Int32) → wm_Wp e 233 5 [.ref 89, .int (0 : Int32), .null, .null, .null] μ Q) ∧ (¬ x4 = (0 : Int32) → wm_Wp e 233 71 [.ref 89, .int x1, .long x2, .null, .int x4] μ Q))) : wm_Wp e 233 62 [.ref 89, .int x1, .long x2, .null, .int x4] μ Q := wm_vc mo_233 (rt := some .int) (by decide +kernel) mc_233 120 h
-- WindBoatModel.term()I, the place 71
set_option maxRecDepth 100000 in
set_option maxHeartbeats 8000000 in
theorem f_233_71 {e : Nat} (x1 : Int32) (x2 : Int64) (x4 : Int32) (μ : wm_M) (Q : Option Value → wm_M → Prop) (h : (((lg_cmp x2 (47 : Int64)) = (0 : Int32) → (¬ x4 = 0 ∧ wm_Wp e 233 5 [.ref 89, .int (x1 / x4), .null, .null, .null] μ Q)) ∧ (¬ (lg_cmp x2 (47 : Int64)) = (0 : Int32) → wm_Wp e 233 86 [.ref 89, .int x1, .null, .null, .int x4] μ Q))) : wm_Wp e 233 71 [.ref 89, .int x1, .long x2, .null, .int x4] μ Q := wm_vc mo_233 (rt := some .int) (by decide +kernel) mc_233 120 h
-- WindBoatModel.term()I, the place 86
set_option maxRecDepth 100000 in
set_option maxHeartbeats 8000000 in
theorem f_233_86 {e : Nat} (x1 : Int32) (x4 : Int32) (μ : wm_M) (Q : Option Value → wm_M → Prop) (h : (¬ x4 = 0 ∧ wm_Wp e 233 5 [.ref 89, .int (x1 - x1 / x4 * x4), .null, .null, .null] μ Q)) : wm_Wp e 233 86 [.ref 89, .int x1, .null, .null, .int x4] μ Q := wm_vc mo_233 (rt := some .int) (by decide +kernel) mc_233 120 h
-- WindBoatModel.term()I, the place 94
set_option maxRecDepth 100000 in
set_option maxHeartbeats 8000000 in
theorem f_233_94 {e : Nat} (x1 : Int32) (μ : wm_M) (Q : Option Value → wm_M → Prop) (h : Q (some (.int x1)) μ) : wm_Wp e 233 94 [.null, .int x1, .null, .null, .null] μ Q := wm_vc mo_233 (rt := some .int) (by decide +kernel) mc_233 120 h
