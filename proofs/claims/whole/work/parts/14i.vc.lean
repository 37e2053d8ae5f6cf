/-! ===== what each block of code asks (printed by wip/gen/genvc.py) ===== -/
-- WindBoatModel.goesOn(III)V
set_option maxRecDepth 100000 in
set_option maxHeartbeats 8000000 in
theorem f_253 (a1 : Int32) (a2 : Int32) (a3 : Int32) (μ : wm_M) (Q : Option Value → wm_M → Prop) (h : (¬ (3 : Int32) = 0 ∧ (¬ (3 : Int32) = 0 ∧ (¬ (8 : Int32) = 0 ∧ (¬ (24 : Int32) = 0 ∧ wm_Wp 0 253 19 [.ref 89, .int a1, .int a2, .int a3, .int (a2 - a2 / (3 : Int32) * (3 : Int32)), .int ((a2 / (3 : Int32)) - (a2 / (3 : Int32)) / (8 : Int32) * (8 : Int32)), .int (a2 / (24 : Int32)), .null] μ Q))))) : wm_Ok 0 253 [.ref 89, .int a1, .int a2, .int a3] μ Q := wm_ent (nL := 8) (l := [.ref 89, .int a1, .int a2, .int a3, .null, .null, .null, .null]) (by decide +kernel) (by decide +kernel) (by decide +kernel) rfl rfl (wm_vc mo_253 (rt := none) (by decide +kernel) mc_253 230 h)
-- WindBoatModel.goesOn(III)V, the place 19
set_option maxRecDepth 100000 in
set_option maxHeartbeats 8000000 in
theorem f_253_19 (x1 : Int32) (x2 : Int32) (x3 : Int32) (x4 : Int32) (x5 : Int32) (x6 : Int32) (μ : wm_M) (Q : Option Value → wm_M → Prop) (h : (vp_in x2 864 ∧ (((μ.1 96 (x2).toNatClampNeg) = x3 → wm_Wp 0 253 32 [.ref 89, .int x1, .int x2, .int x3, .int x4, .int x5, .int x6, .int (0 : Int32)] μ Q) ∧ (¬ (μ.1 96 (x2).toNatClampNeg) = x3 → wm_Wp 0 253 133 [.ref 89, .null, .int x2, .int x3, .int x4, .int x5, .int x6, .null] μ Q)))) : wm_Wp 0 253 19 [.ref 89, .int x1, .int x2, .int x3, .int x4, .int x5, .int x6, .null] μ Q := wm_vc mo_253 (rt := none) (by decide +kernel) mc_253 230 h
-- WindBoatModel.goesOn(III)V, the place 32
set_option maxRecDepth 100000 in
set_option maxHeartbeats 8000000 in
theorem f_253_32 (x1 : Int32) (x2 : Int32) (x3 : Int32) (x4 : Int32) (x5 : Int32) (x6 : Int32) (x7 : Int32) (μ : wm_M) (Q : Option Value → wm_M → Prop) (h : (((8 : Int32) ≤ x7 → wm_Wp 0 253 78 [.ref 89, .int x1, .int x2, .int x3, .int x4, .int x5, .int x6, .null] μ Q) ∧ (¬ (8 : Int32) ≤ x7 → ((x7 = x5 → wm_Wp 0 253 72 [.ref 89, .int x1, .int x2, .int x3, .int x4, .int x5, .int x6, .int x7] μ Q) ∧ (¬ x7 = x5 → wm_OkI 0 248 [.int x7, .int x5] μ (fun r2 μ1 => wm_OkV 0 251 [.ref 89, .int (((3 : Int32) * (((8 : Int32) * x6) + x7)) + x4), .int (x3 + r2)] μ1 (fun μ3 => wm_Wp 0 253 72 [.ref 89, .int x1, .int x2, .int x3, .int x4, .int x5, .int x6, .int x7] μ3 Q))))))) : wm_Wp 0 253 32 [.ref 89, .int x1, .int x2, .int x3, .int x4, .int x5, .int x6, .int x7] μ Q := wm_vc mo_253 (rt := none) (by decide +kernel) mc_253 230 h
-- WindBoatModel.goesOn(III)V, the place 72
set_option maxRecDepth 100000 in
set_option maxHeartbeats 8000000 in
theorem f_253_72 (x1 : Int32) (x2 : Int32) (x3 : Int32) (x4 : Int32) (x5 : Int32) (x6 : Int32) (x7 : Int32) (μ : wm_M) (Q : Option Value → wm_M → Prop) (h : wm_Wp 0 253 32 [.ref 89, .int x1, .int x2, .int x3, .int x4, .int x5, .int x6, .int (x7 + (1 : Int32))] μ Q) : wm_Wp 0 253 72 [.ref 89, .int x1, .int x2, .int x3, .int x4, .int x5, .int x6, .int x7] μ Q := wm_vc mo_253 (rt := none) (by decide +kernel) mc_253 230 h
-- WindBoatModel.goesOn(III)V, the place 78
set_option maxRecDepth 100000 in
set_option maxHeartbeats 8000000 in
theorem f_253_78 (x1 : Int32) (x2 : Int32) (x3 : Int32) (x4 : Int32) (x5 : Int32) (x6 : Int32) (μ : wm_M) (Q : Option Value → wm_M → Prop) (h : wm_Wp 0 253 81 [.ref 89, .int x1, .int x2, .int x3, .int x4, .int x5, .int x6, .int (0 : Int32)] μ Q) : wm_Wp 0 253 78 [.ref 89, .int x1, .int x2, .int x3, .int x4, .int x5, .int x6, .null] μ Q := wm_vc mo_253 (rt := none) (by decide +kernel) mc_253 230 h
-- WindBoatModel.goesOn(III)V, the place 81
set_option maxRecDepth 100000 in
set_option maxHeartbeats 8000000 in
theorem f_253_81 (x1 : Int32) (x2 : Int32) (x3 : Int32) (x4 : Int32) (x5 : Int32) (x6 : Int32) (x7 : Int32) (μ : wm_M) (Q : Option Value → wm_M → Prop) (h : wm_OkI 0 188 [.ref 89, .int (0 : Int32)] μ (fun r2 μ1 => ((r2 ≤ x7 → wm_Wp 0 253 133 [.ref 89, .null, .int x2, .int x3, .int x4, .int x5, .int x6, .null] μ1 Q) ∧ (¬ r2 ≤ x7 → wm_Wp 0 253 91 [.ref 89, .int x1, .int x2, .int x3, .int x4, .int x5, .int x6, .int x7] μ1 Q)))) : wm_Wp 0 253 81 [.ref 89, .int x1, .int x2, .int x3, .int x4, .int x5, .int x6, .int x7] μ Q := wm_vc mo_253 (rt := none) (by decide +kernel) mc_253 230 h
-- WindBoatModel.goesOn(III)V, the place 91
set_option maxRecDepth 100000 in
set_option maxHeartbeats 8000000 in
theorem f_253_91 (x1 : Int32) (x2 : Int32) (x3 : Int32) (x4 : Int32) (x5 : Int32) (x6 : Int32) (x7 : Int32) (μ : wm_M) (Q : Option Value → wm_M → Prop) (h : ((x7 = x4 → wm_Wp 0 253 127 [.ref 89, .int x1, .int x2, .int x3, .int x4, .int x5, .int x6, .int x7] μ Q) ∧ (¬ x7 = x4 → wm_OkI 0 213 [.ref 89, .int x7] μ (fun r2 μ1 => ((r2 = (0 : Int32) → wm_Wp 0 253 127 [.ref 89, .int x1, .int x2, .int x3, .int x4, .int x5, .int x6, .int x7] μ1 Q) ∧ (¬ r2 = (0 : Int32) → wm_Wp 0 253 107 [.ref 89, .int x1, .int x2, .int x3, .int x4, .int x5, .int x6, .int x7] μ1 Q)))))) : wm_Wp 0 253 91 [.ref 89, .int x1, .int x2, .int x3, .int x4, .int x5, .int x6, .int x7] μ Q := wm_vc mo_253 (rt := none) (by decide +kernel) mc_253 230 h
-- WindBoatModel.goesOn(III)V, the place 107
set_option maxRecDepth 100000 in
set_option maxHeartbeats 8000000 in
theorem f_253_107 (x1 : Int32) (x2 : Int32) (x3 : Int32) (x4 : Int32) (x5 : Int32) (x6 : Int32) (x7 : Int32) (μ : wm_M) (Q : Option Value → wm_M → Prop) (h : wm_OkV 0 251 [.ref 89, .int (((3 : Int32) * (((8 : Int32) * x6) + x5)) + x7), .int (x3 + x1)] μ (fun μ1 => wm_Wp 0 253 127 [.ref 89, .int x1, .int x2, .int x3, .int x4, .int x5, .int x6, .int x7] μ1 Q)) : wm_Wp 0 253 107 [.ref 89, .int x1, .int x2, .int x3, .int x4, .int x5, .int x6, .int x7] μ Q := wm_vc mo_253 (rt := none) (by decide +kernel) mc_253 230 h
-- WindBoatModel.goesOn(III)V, the place 127
set_option maxRecDepth 100000 in
set_option maxHeartbeats 8000000 in
theorem f_253_127 (x1 : Int32) (x2 : Int32) (x3 : Int32) (x4 : Int32) (x5 : Int32) (x6 : Int32) (x7 : Int32) (μ : wm_M) (Q : Option Value → wm_M → Prop) (h : wm_Wp 0 253 81 [.ref 89, .int x1, .int x2, .int x3, .int x4, .int x5, .int x6, .int (x7 + (1 : Int32))] μ Q) : wm_Wp 0 253 127 [.ref 89, .int x1, .int x2, .int x3, .int x4, .int x5, .int x6, .int x7] μ Q := wm_vc mo_253 (rt := none) (by decide +kernel) mc_253 230 h
-- WindBoatModel.goesOn(III)V, the place 133
set_option maxRecDepth 100000 in
set_option maxHeartbeats 8000000 in
theorem f_253_133 (x2 : Int32) (x3 : Int32) (x4 : Int32) (x5 : Int32) (x6 : Int32) (μ : wm_M) (Q : Option Value → wm_M → Prop) (h : wm_OkI 0 192 [.int x3] μ (fun r2 μ1 => (vp_in (((864 : Int32) * r2) + x2) 10368 ∧ wm_Wp 0 253 150 [.ref 89, .null, .null, .int x3, .int x4, .int x5, .int x6, .int (μ1.1 95 ((((864 : Int32) * r2) + x2)).toNatClampNeg)] μ1 Q))) : wm_Wp 0 253 133 [.ref 89, .null, .int x2, .int x3, .int x4, .int x5, .int x6, .null] μ Q := wm_vc mo_253 (rt := none) (by decide +kernel) mc_253 230 h
-- WindBoatModel.goesOn(III)V, the place 150
set_option maxRecDepth 100000 in
set_option maxHeartbeats 8000000 in
theorem f_253_150 (x3 : Int32) (x4 : Int32) (x5 : Int32) (x6 : Int32) (x7 : Int32) (μ : wm_M) (Q : Option Value → wm_M → Prop) (h : ((x7 ≤ (0 : Int32) → wm_Wp 0 253 181 [.null, .null, .null, .null, .null, .null, .null, .null] μ Q) ∧ (¬ x7 ≤ (0 : Int32) → wm_OkI 0 247 [.int x6, .int x5] μ (fun r2 μ1 => wm_OkV 0 251 [.ref 89, .int (((3 : Int32) * (((8 : Int32) * r2) + x5)) + x4), .int (x3 + x7)] μ1 (fun μ3 => wm_Wp 0 253 181 [.null, .null, .null, .null, .null, .null, .null, .null] μ3 Q))))) : wm_Wp 0 253 150 [.ref 89, .null, .null, .int x3, .int x4, .int x5, .int x6, .int x7] μ Q := wm_vc mo_253 (rt := none) (by decide +kernel) mc_253 230 h
-- WindBoatModel.goesOn(III)V, the place 181
set_option maxRecDepth 100000 in
set_option maxHeartbeats 8000000 in
theorem f_253_181 (μ : wm_M) (Q : Option Value → wm_M → Prop) (h : Q none μ) : wm_Wp 0 253 181 [.null, .null, .null, .null, .null, .null, .null, .null] μ Q := wm_vc mo_253 (rt := none) (by decide +kernel) mc_253 230 h
-- WindBoatModel.endOf(I)I
set_option maxRecDepth 100000 in
set_option maxHeartbeats 8000000 in
theorem f_254 (a1 : Int32) (μ : wm_M) (Q : Option Value → wm_M → Prop) (h : wm_Wp 0 254 7 [.ref 89, .int a1, .int (-1 : Int32), .int ((24 : Int32) * a1)] μ Q) : wm_Ok 0 254 [.ref 89, .int a1] μ Q := wm_ent (nL := 4) (l := [.ref 89, .int a1, .null, .null]) (by decide +kernel) (by decide +kernel) (by decide +kernel) rfl rfl (wm_vc mo_254 (rt := some .int) (by decide +kernel) mc_254 94 h)
-- WindBoatModel.endOf(I)I, the place 7
set_option maxRecDepth 100000 in
set_option maxHeartbeats 8000000 in
theorem f_254_7 (x1 : Int32) (x2 : Int32) (x3 : Int32) (μ : wm_M) (Q : Option Value → wm_M → Prop) (h : ((((24 : Int32) * (x1 + (1 : Int32))) ≤ x3 → wm_Wp 0 254 55 [.null, .null, .int x2, .null] μ Q) ∧ (¬ ((24 : Int32) * (x1 + (1 : Int32))) ≤ x3 → (vp_in x3 864 ∧ (((μ.1 96 (x3).toNatClampNeg) = (-1 : Int32) → wm_Wp 0 254 49 [.ref 89, .int x1, .int x2, .int x3] μ Q) ∧ (¬ (μ.1 96 (x3).toNatClampNeg) = (-1 : Int32) → wm_Wp 0 254 27 [.ref 89, .int x1, .int x2, .int x3] μ Q)))))) : wm_Wp 0 254 7 [.ref 89, .int x1, .int x2, .int x3] μ Q := wm_vc mo_254 (rt := some .int) (by decide +kernel) mc_254 94 h
-- WindBoatModel.endOf(I)I, the place 27
set_option maxRecDepth 100000 in
set_option maxHeartbeats 8000000 in
theorem f_254_27 (x1 : Int32) (x2 : Int32) (x3 : Int32) (μ : wm_M) (Q : Option Value → wm_M → Prop) (h : ((x2 = (-1 : Int32) → wm_Wp 0 254 47 [.ref 89, .int x1, .null, .int x3] μ Q) ∧ (¬ x2 = (-1 : Int32) → (vp_in x3 864 ∧ (vp_in x2 864 ∧ (((μ.1 96 (x2).toNatClampNeg) ≤ (μ.1 96 (x3).toNatClampNeg) → wm_Wp 0 254 49 [.ref 89, .int x1, .int x2, .int x3] μ Q) ∧ (¬ (μ.1 96 (x2).toNatClampNeg) ≤ (μ.1 96 (x3).toNatClampNeg) → wm_Wp 0 254 47 [.ref 89, .int x1, .null, .int x3] μ Q))))))) : wm_Wp 0 254 27 [.ref 89, .int x1, .int x2, .int x3] μ Q := wm_vc mo_254 (rt := some .int) (by decide +kernel) mc_254 94 h
-- WindBoatModel.endOf(I)I, the place 47
set_option maxRecDepth 100000 in
set_option maxHeartbeats 8000000 in
theorem f_254_47 (x1 : Int32) (x3 : Int32) (μ : wm_M) (Q : Option Value → wm_M → Prop) (h : wm_Wp 0 254 49 [.ref 89, .int x1, .int x3, .int x3] μ Q) : wm_Wp 0 254 47 [.ref 89, .int x1, .null, .int x3] μ Q := wm_vc mo_254 (rt := some .int) (by decide +kernel) mc_254 94 h
-- WindBoatModel.endOf(I)I, the place 49
set_option maxRecDepth 100000 in
set_option maxHeartbeats 8000000 in
theorem f_254_49 (x1 : Int32) (x2 : Int32) (x3 : Int32) (μ : wm_M) (Q : Option Value → wm_M → Prop) (h : wm_Wp 0 254 7 [.ref 89, .int x1, .int x2, .int (x3 + (1 : Int32))] μ Q) : wm_Wp 0 254 49 [.ref 89, .int x1, .int x2, .int x3] μ Q := wm_vc mo_254 (rt := some .int) (by decide +kernel) mc_254 94 h
-- WindBoatModel.endOf(I)I, the place 55
set_option maxRecDepth 100000 in
set_option maxHeartbeats 8000000 in
theorem f_254_55 (x2 : Int32) (μ : wm_M) (Q : Option Value → wm_M → Prop) (h : Q (some (.int x2)) μ) : wm_Wp 0 254 55 [.null, .null, .int x2, .null] μ Q := wm_vc mo_254 (rt := some .int) (by decide +kernel) mc_254 94 h
-- WindBoatModel.isFrom(III)Z
set_option maxRecDepth 100000 in
set_option maxHeartbeats 8000000 in
theorem f_255 (a1 : Int32) (a2 : Int32) (a3 : Int32) (μ : wm_M) (Q : Option Value → wm_M → Prop) (h : ((a2 = a3 → wm_Wp 0 255 30 [.null, .null, .null, .null, .null, .null, .null, .null, .null, .null, .null, .null, .null, .null] μ Q) ∧ (¬ a2 = a3 → (vp_in a2 864 ∧ (((μ.1 96 (a2).toNatClampNeg) = (-1 : Int32) → wm_Wp 0 255 30 [.null, .null, .null, .null, .null, .null, .null, .null, .null, .null, .null, .null, .null, .null] μ Q) ∧ (¬ (μ.1 96 (a2).toNatClampNeg) = (-1 : Int32) → (vp_in a2 864 ∧ (vp_in a3 864 ∧ (((μ.1 96 (a2).toNatClampNeg) < (μ.1 96 (a3).toNatClampNeg) → wm_Wp 0 255 32 [.ref 89, .int a1, .int a2, .int a3, .null, .null, .null, .null, .null, .null, .null, .null, .null, .null] μ Q) ∧ (¬ (μ.1 96 (a2).toNatClampNeg) < (μ.1 96 (a3).toNatClampNeg) → wm_Wp 0 255 30 [.null, .null, .null, .null, .null, .null, .null, .null, .null, .null, .null, .null, .null, .null] μ Q)))))))))) : wm_Ok 0 255 [.ref 89, .int a1, .int a2, .int a3] μ Q := wm_ent (nL := 14) (l := [.ref 89, .int a1, .int a2, .int a3, .null, .null, .null, .null, .null, .null, .null, .null, .null, .null]) (by decide +kernel) (by decide +kernel) (by decide +kernel) rfl rfl (wm_vc mo_255 (rt := some .boolean) (by decide +kernel) mc_255 312 h)
-- WindBoatModel.isFrom(III)Z, the place 30
set_option maxRecDepth 100000 in
set_option maxHeartbeats 8000000 in
theorem f_255_30 (μ : wm_M) (Q : Option Value → wm_M → Prop) (h : (((0 : Int32) = 0 ∨ (0 : Int32) = 1) ∧ Q (some (.int (0 : Int32))) μ)) : wm_Wp 0 255 30 [.null, .null, .null, .null, .null, .null, .null, .null, .null, .null, .null, .null, .null, .null] μ Q := wm_vc mo_255 (rt := some .boolean) (by decide +kernel) mc_255 312 h
-- WindBoatModel.isFrom(III)Z, the place 32
set_option maxRecDepth 100000 in
set_option maxHeartbeats 8000000 in
theorem f_255_32 (x1 : Int32) (x2 : Int32) (x3 : Int32) (μ : wm_M) (Q : Option Value → wm_M → Prop) (h : (¬ (24 : Int32) = 0 ∧ (¬ (3 : Int32) = 0 ∧ (¬ (8 : Int32) = 0 ∧ (¬ (3 : Int32) = 0 ∧ wm_Wp 0 255 51 [.ref 89, .int x1, .int x2, .int x3, .int (x2 / (24 : Int32)), .int ((x2 / (3 : Int32)) - (x2 / (3 : Int32)) / (8 : Int32) * (8 : Int32)), .int (x2 - x2 / (3 : Int32) * (3 : Int32)), .null, .null, .null, .null, .null, .null, .null] μ Q))))) : wm_Wp 0 255 32 [.ref 89, .int x1, .int x2, .int x3, .null, .null, .null, .null, .null, .null, .null, .null, .null, .null] μ Q := wm_vc mo_255 (rt := some .boolean) (by decide +kernel) mc_255 312 h
-- WindBoatModel.isFrom(III)Z, the place 51
set_option maxRecDepth 100000 in
set_option maxHeartbeats 8000000 in
theorem f_255_51 (x1 : Int32) (x2 : Int32) (x3 : Int32) (x4 : Int32) (x5 : Int32) (x6 : Int32) (μ : wm_M) (Q : Option Value → wm_M → Prop) (h : (¬ (24 : Int32) = 0 ∧ (¬ (3 : Int32) = 0 ∧ (¬ (8 : Int32) = 0 ∧ (¬ (3 : Int32) = 0 ∧ wm_Wp 0 255 70 [.ref 89, .int x1, .int x2, .int x3, .int x4, .int x5, .int x6, .int (x3 / (24 : Int32)), .int ((x3 / (3 : Int32)) - (x3 / (3 : Int32)) / (8 : Int32) * (8 : Int32)), .int (x3 - x3 / (3 : Int32) * (3 : Int32)), .null, .null, .null, .null] μ Q))))) : wm_Wp 0 255 51 [.ref 89, .int x1, .int x2, .int x3, .int x4, .int x5, .int x6, .null, .null, .null, .null, .null, .null, .null] μ Q := wm_vc mo_255 (rt := some .boolean) (by decide +kernel) mc_255 312 h
-- WindBoatModel.isFrom(III)Z, the place 70
set_option maxRecDepth 100000 in
set_option maxHeartbeats 8000000 in
theorem f_255_70 (x1 : Int32) (x2 : Int32) (x3 : Int32) (x4 : Int32) (x5 : Int32) (x6 : Int32) (x7 : Int32) (x8 : Int32) (x9 : Int32) (μ : wm_M) (Q : Option Value → wm_M → Prop) (h : (vp_in x3 864 ∧ (vp_in x2 864 ∧ ((x4 = x7 → wm_Wp 0 255 92 [.ref 89, .int x1, .int x2, .int x3, .int x4, .int x5, .int x6, .int x7, .int x8, .int x9, .int ((μ.1 96 (x3).toNatClampNeg) - (μ.1 96 (x2).toNatClampNeg)), .null, .null, .null] μ Q) ∧ (¬ x4 = x7 → wm_Wp 0 255 117 [.ref 89, .int x1, .int x2, .int x3, .int x4, .int x5, .int x6, .int x7, .int x8, .int x9, .int ((μ.1 96 (x3).toNatClampNeg) - (μ.1 96 (x2).toNatClampNeg)), .null, .null, .null] μ Q))))) : wm_Wp 0 255 70 [.ref 89, .int x1, .int x2, .int x3, .int x4, .int x5, .int x6, .int x7, .int x8, .int x9, .null, .null, .null, .null] μ Q := wm_vc mo_255 (rt := some .boolean) (by decide +kernel) mc_255 312 h
-- WindBoatModel.isFrom(III)Z, the place 92
set_option maxRecDepth 100000 in
set_option maxHeartbeats 8000000 in
theorem f_255_92 (x1 : Int32) (x2 : Int32) (x3 : Int32) (x4 : Int32) (x5 : Int32) (x6 : Int32) (x7 : Int32) (x8 : Int32) (x9 : Int32) (x10 : Int32) (μ : wm_M) (Q : Option Value → wm_M → Prop) (h : ((x6 = x9 → wm_OkI 0 248 [.int x5, .int x8] μ (fun r2 μ1 => ((x10 < r2 → wm_Wp 0 255 115 [.null, .null, .null, .null, .null, .null, .null, .null, .null, .null, .null, .null, .null, .null] μ1 Q) ∧ (¬ x10 < r2 → wm_Wp 0 255 111 [.null, .null, .null, .null, .null, .null, .null, .null, .null, .null, .null, .null, .null, .null] μ1 Q)))) ∧ (¬ x6 = x9 → wm_Wp 0 255 117 [.ref 89, .int x1, .int x2, .int x3, .int x4, .int x5, .int x6, .int x7, .int x8, .int x9, .int x10, .null, .null, .null] μ Q))) : wm_Wp 0 255 92 [.ref 89, .int x1, .int x2, .int x3, .int x4, .int x5, .int x6, .int x7, .int x8, .int x9, .int x10, .null, .null, .null] μ Q := wm_vc mo_255 (rt := some .boolean) (by decide +kernel) mc_255 312 h
-- WindBoatModel.isFrom(III)Z, the place 111
set_option maxRecDepth 100000 in
set_option maxHeartbeats 8000000 in
theorem f_255_111 (μ : wm_M) (Q : Option Value → wm_M → Prop) (h : (((1 : Int32) = 0 ∨ (1 : Int32) = 1) ∧ Q (some (.int (1 : Int32))) μ)) : wm_Wp 0 255 111 [.null, .null, .null, .null, .null, .null, .null, .null, .null, .null, .null, .null, .null, .null] μ Q := wm_vc mo_255 (rt := some .boolean) (by decide +kernel) mc_255 312 h
-- WindBoatModel.isFrom(III)Z, the place 115
set_option maxRecDepth 100000 in
set_option maxHeartbeats 8000000 in
theorem f_255_115 (μ : wm_M) (Q : Option Value → wm_M → Prop) (h : (((0 : Int32) = 0 ∨ (0 : Int32) = 1) ∧ Q (some (.int (0 : Int32))) μ)) : wm_Wp 0 255 115 [.null, .null, .null, .null, .null, .null, .null, .null, .null, .null, .null, .null, .null, .null] μ Q := wm_vc mo_255 (rt := some .boolean) (by decide +kernel) mc_255 312 h
-- WindBoatModel.isFrom(III)Z, the place 117
set_option maxRecDepth 100000 in
set_option maxHeartbeats 8000000 in
theorem f_255_117 (x1 : Int32) (x2 : Int32) (x3 : Int32) (x4 : Int32) (x5 : Int32) (x6 : Int32) (x7 : Int32) (x8 : Int32) (x9 : Int32) (x10 : Int32) (μ : wm_M) (Q : Option Value → wm_M → Prop) (h : ((x4 = x7 → ((x5 = x8 → wm_OkI 0 213 [.ref 89, .int x9] μ (fun r2 μ1 => ((r2 = (0 : Int32) → wm_Wp 0 255 150 [.null, .null, .null, .null, .null, .null, .null, .null, .null, .null, .null, .null, .null, .null] μ1 Q) ∧ (¬ r2 = (0 : Int32) → wm_Wp 0 255 140 [.null, .int x1, .null, .null, .null, .null, .null, .null, .null, .null, .int x10, .null, .null, .null] μ1 Q)))) ∧ (¬ x5 = x8 → wm_Wp 0 255 152 [.ref 89, .null, .int x2, .int x3, .int x4, .int x5, .int x6, .int x7, .int x8, .int x9, .null, .null, .null, .null] μ Q))) ∧ (¬ x4 = x7 → wm_Wp 0 255 152 [.ref 89, .null, .int x2, .int x3, .int x4, .int x5, .int x6, .int x7, .int x8, .int x9, .null, .null, .null, .null] μ Q))) : wm_Wp 0 255 117 [.ref 89, .int x1, .int x2, .int x3, .int x4, .int x5, .int x6, .int x7, .int x8, .int x9, .int x10, .null, .null, .null] μ Q := wm_vc mo_255 (rt := some .boolean) (by decide +kernel) mc_255 312 h
-- WindBoatModel.isFrom(III)Z, the place 140
set_option maxRecDepth 100000 in
set_option maxHeartbeats 8000000 in
theorem f_255_140 (x1 : Int32) (x10 : Int32) (μ : wm_M) (Q : Option Value → wm_M → Prop) (h : ((x10 < x1 → wm_Wp 0 255 150 [.null, .null, .null, .null, .null, .null, .null, .null, .null, .null, .null, .null, .null, .null] μ Q) ∧ (¬ x10 < x1 → (((1 : Int32) = 0 ∨ (1 : Int32) = 1) ∧ Q (some (.int (1 : Int32))) μ)))) : wm_Wp 0 255 140 [.null, .int x1, .null, .null, .null, .null, .null, .null, .null, .null, .int x10, .null, .null, .null] μ Q := wm_vc mo_255 (rt := some .boolean) (by decide +kernel) mc_255 312 h
-- WindBoatModel.isFrom(III)Z, the place 150
set_option maxRecDepth 100000 in
set_option maxHeartbeats 8000000 in
theorem f_255_150 (μ : wm_M) (Q : Option Value → wm_M → Prop) (h : (((0 : Int32) = 0 ∨ (0 : Int32) = 1) ∧ Q (some (.int (0 : Int32))) μ)) : wm_Wp 0 255 150 [.null, .null, .null, .null, .null, .null, .null, .null, .null, .null, .null, .null, .null, .null] μ Q := wm_vc mo_255 (rt := some .boolean) (by decide +kernel) mc_255 312 h
-- WindBoatModel.isFrom(III)Z, the place 152
set_option maxRecDepth 100000 in
set_option maxHeartbeats 8000000 in
theorem f_255_152 (x2 : Int32) (x3 : Int32) (x4 : Int32) (x5 : Int32) (x6 : Int32) (x7 : Int32) (x8 : Int32) (x9 : Int32) (μ : wm_M) (Q : Option Value → wm_M → Prop) (h : ((x6 = x9 → ((x5 = x8 → wm_OkI 0 247 [.int x4, .int x5] μ (fun r2 μ1 => ((r2 = x7 → wm_Wp 0 255 180 [.ref 89, .null, .int x2, .int x3, .null, .null, .null, .null, .null, .null, .null, .null, .null, .null] μ1 Q) ∧ (¬ r2 = x7 → wm_Wp 0 255 178 [.null, .null, .null, .null, .null, .null, .null, .null, .null, .null, .null, .null, .null, .null] μ1 Q)))) ∧ (¬ x5 = x8 → wm_Wp 0 255 178 [.null, .null, .null, .null, .null, .null, .null, .null, .null, .null, .null, .null, .null, .null] μ Q))) ∧ (¬ x6 = x9 → wm_Wp 0 255 178 [.null, .null, .null, .null, .null, .null, .null, .null, .null, .null, .null, .null, .null, .null] μ Q))) : wm_Wp 0 255 152 [.ref 89, .null, .int x2, .int x3, .int x4, .int x5, .int x6, .int x7, .int x8, .int x9, .null, .null, .null, .null] μ Q := wm_vc mo_255 (rt := some .boolean) (by decide +kernel) mc_255 312 h
-- WindBoatModel.isFrom(III)Z, the place 178
set_option maxRecDepth 100000 in
set_option maxHeartbeats 8000000 in
theorem f_255_178 (μ : wm_M) (Q : Option Value → wm_M → Prop) (h : (((0 : Int32) = 0 ∨ (0 : Int32) = 1) ∧ Q (some (.int (0 : Int32))) μ)) : wm_Wp 0 255 178 [.null, .null, .null, .null, .null, .null, .null, .null, .null, .null, .null, .null, .null, .null] μ Q := wm_vc mo_255 (rt := some .boolean) (by decide +kernel) mc_255 312 h
-- WindBoatModel.isFrom(III)Z, the place 180
set_option maxRecDepth 100000 in
set_option maxHeartbeats 8000000 in
theorem f_255_180 (x2 : Int32) (x3 : Int32) (μ : wm_M) (Q : Option Value → wm_M → Prop) (h : (vp_in x2 864 ∧ wm_OkI 0 192 [.int (μ.1 96 (x2).toNatClampNeg)] μ (fun r2 μ1 => wm_Wp 0 255 191 [.ref 89, .null, .int x2, .int x3, .null, .null, .null, .null, .null, .null, .null, .int r2, .null, .null] μ1 Q))) : wm_Wp 0 255 180 [.ref 89, .null, .int x2, .int x3, .null, .null, .null, .null, .null, .null, .null, .null, .null, .null] μ Q := wm_vc mo_255 (rt := some .boolean) (by decide +kernel) mc_255 312 h
-- WindBoatModel.isFrom(III)Z, the place 191
set_option maxRecDepth 100000 in
set_option maxHeartbeats 8000000 in
theorem f_255_191 (x2 : Int32) (x3 : Int32) (x11 : Int32) (μ : wm_M) (Q : Option Value → wm_M → Prop) (h : (((12 : Int32) ≤ x11 → wm_Wp 0 255 258 [.null, .null, .null, .null, .null, .null, .null, .null, .null, .null, .null, .null, .null, .null] μ Q) ∧ (¬ (12 : Int32) ≤ x11 → (vp_in (((864 : Int32) * x11) + x2) 10368 ∧ wm_Wp 0 255 213 [.ref 89, .null, .int x2, .int x3, .null, .null, .null, .null, .null, .null, .null, .int x11, .int (μ.1 95 ((((864 : Int32) * x11) + x2)).toNatClampNeg), .null] μ Q)))) : wm_Wp 0 255 191 [.ref 89, .null, .int x2, .int x3, .null, .null, .null, .null, .null, .null, .null, .int x11, .null, .null] μ Q := wm_vc mo_255 (rt := some .boolean) (by decide +kernel) mc_255 312 h
-- WindBoatModel.isFrom(III)Z, the place 213
set_option maxRecDepth 100000 in
set_option maxHeartbeats 8000000 in
theorem f_255_213 (x2 : Int32) (x3 : Int32) (x11 : Int32) (x12 : Int32) (μ : wm_M) (Q : Option Value → wm_M → Prop) (h : (vp_in x3 864 ∧ ((x12 ≤ (0 : Int32) → wm_Wp 0 255 252 [.ref 89, .null, .int x2, .int x3, .null, .null, .null, .null, .null, .null, .null, .int x11, .null, .null] μ Q) ∧ (¬ x12 ≤ (0 : Int32) → (vp_in x2 864 ∧ ((((μ.1 96 (x3).toNatClampNeg) - x12) < (μ.1 96 (x2).toNatClampNeg) → wm_Wp 0 255 252 [.ref 89, .null, .int x2, .int x3, .null, .null, .null, .null, .null, .null, .null, .int x11, .null, .null] μ Q) ∧ (¬ ((μ.1 96 (x3).toNatClampNeg) - x12) < (μ.1 96 (x2).toNatClampNeg) → wm_Wp 0 255 240 [.ref 89, .null, .int x2, .int x3, .null, .null, .null, .null, .null, .null, .null, .int x11, .null, .int ((μ.1 96 (x3).toNatClampNeg) - x12)] μ Q))))))) : wm_Wp 0 255 213 [.ref 89, .null, .int x2, .int x3, .null, .null, .null, .null, .null, .null, .null, .int x11, .int x12, .null] μ Q := wm_vc mo_255 (rt := some .boolean) (by decide +kernel) mc_255 312 h
-- WindBoatModel.isFrom(III)Z, the place 240
set_option maxRecDepth 100000 in
set_option maxHeartbeats 8000000 in
theorem f_255_240 (x2 : Int32) (x3 : Int32) (x11 : Int32) (x13 : Int32) (μ : wm_M) (Q : Option Value → wm_M → Prop) (h : wm_OkI 0 192 [.int x13] μ (fun r2 μ1 => ((r2 = x11 → wm_Wp 0 255 250 [.null, .null, .null, .null, .null, .null, .null, .null, .null, .null, .null, .null, .null, .null] μ1 Q) ∧ (¬ r2 = x11 → wm_Wp 0 255 252 [.ref 89, .null, .int x2, .int x3, .null, .null, .null, .null, .null, .null, .null, .int x11, .null, .null] μ1 Q)))) : wm_Wp 0 255 240 [.ref 89, .null, .int x2, .int x3, .null, .null, .null, .null, .null, .null, .null, .int x11, .null, .int x13] μ Q := wm_vc mo_255 (rt := some .boolean) (by decide +kernel) mc_255 312 h
-- WindBoatModel.isFrom(III)Z, the place 250
set_option maxRecDepth 100000 in
set_option maxHeartbeats 8000000 in
theorem f_255_250 (μ : wm_M) (Q : Option Value → wm_M → Prop) (h : (((1 : Int32) = 0 ∨ (1 : Int32) = 1) ∧ Q (some (.int (1 : Int32))) μ)) : wm_Wp 0 255 250 [.null, .null, .null, .null, .null, .null, .null, .null, .null, .null, .null, .null, .null, .null] μ Q := wm_vc mo_255 (rt := some .boolean) (by decide +kernel) mc_255 312 h
-- WindBoatModel.isFrom(III)Z, the place 252
set_option maxRecDepth 100000 in
set_option maxHeartbeats 8000000 in
theorem f_255_252 (x2 : Int32) (x3 : Int32) (x11 : Int32) (μ : wm_M) (Q : Option Value → wm_M → Prop) (h : wm_Wp 0 255 191 [.ref 89, .null, .int x2, .int x3, .null, .null, .null, .null, .null, .null, .null, .int (x11 + (1 : Int32)), .null, .null] μ Q) : wm_Wp 0 255 252 [.ref 89, .null, .int x2, .int x3, .null, .null, .null, .null, .null, .null, .null, .int x11, .null, .null] μ Q := wm_vc mo_255 (rt := some .boolean) (by decide +kernel) mc_255 312 h
-- WindBoatModel.isFrom(III)Z, the place 258
set_option maxRecDepth 100000 in
set_option maxHeartbeats 8000000 in
theorem f_255_258 (μ : wm_M) (Q : Option Value → wm_M → Prop) (h : (((0 : Int32) = 0 ∨ (0 : Int32) = 1) ∧ Q (some (.int (0 : Int32))) μ)) : wm_Wp 0 255 258 [.null, .null, .null, .null, .null, .null, .null, .null, .null, .null, .null, .null, .null, .null] μ Q := wm_vc mo_255 (rt := some .boolean) (by decide +kernel) mc_255 312 h
-- WindBoatModel.plans(II)Z
set_option maxRecDepth 100000 in
set_option maxHeartbeats 8000000 in
theorem f_256 (a1 : Int32) (a2 : Int32) (μ : wm_M) (Q : Option Value → wm_M → Prop) (h : wm_Wp 0 256 5 [.ref 89, .int a1, .int a2, .null, .null] (wm_si μ 89 27 (0 : Int32)) Q) : wm_Ok 0 256 [.ref 89, .int a1, .int a2] μ Q := wm_ent (nL := 5) (l := [.ref 89, .int a1, .int a2, .null, .null]) (by decide +kernel) (by decide +kernel) (by decide +kernel) rfl rfl (wm_vc mo_256 (rt := some .boolean) (by decide +kernel) mc_256 140 h)
-- WindBoatModel.plans(II)Z, the place 5
set_option maxRecDepth 100000 in
set_option maxHeartbeats 8000000 in
theorem f_256_5 (x1 : Int32) (x2 : Int32) (μ : wm_M) (Q : Option Value → wm_M → Prop) (h : wm_OkI 0 254 [.ref 89, .int x2] μ (fun r2 μ1 => wm_Wp 0 256 11 [.ref 89, .int x1, .null, .int r2, .null] μ1 Q)) : wm_Wp 0 256 5 [.ref 89, .int x1, .int x2, .null, .null] μ Q := wm_vc mo_256 (rt := some .boolean) (by decide +kernel) mc_256 140 h
-- WindBoatModel.plans(II)Z, the place 11
set_option maxRecDepth 100000 in
set_option maxHeartbeats 8000000 in
theorem f_256_11 (x1 : Int32) (x3 : Int32) (μ : wm_M) (Q : Option Value → wm_M → Prop) (h : ((x3 = (-1 : Int32) → (((0 : Int32) = 0 ∨ (0 : Int32) = 1) ∧ Q (some (.int (0 : Int32))) μ)) ∧ (¬ x3 = (-1 : Int32) → wm_Wp 0 256 18 [.ref 89, .int x1, .null, .int x3, .null] μ Q))) : wm_Wp 0 256 11 [.ref 89, .int x1, .null, .int x3, .null] μ Q := wm_vc mo_256 (rt := some .boolean) (by decide +kernel) mc_256 140 h
-- WindBoatModel.plans(II)Z, the place 18
set_option maxRecDepth 100000 in
set_option maxHeartbeats 8000000 in
theorem f_256_18 (x1 : Int32) (x3 : Int32) (μ : wm_M) (Q : Option Value → wm_M → Prop) (h : ((x3 = (μ.1 89 25) → wm_Wp 0 256 96 [.null, .null, .null, .null, .null] μ Q) ∧ (¬ x3 = (μ.1 89 25) → wm_Wp 0 256 29 [.ref 89, .int x1, .null, .int x3, .int (0 : Int32)] μ Q))) : wm_Wp 0 256 18 [.ref 89, .int x1, .null, .int x3, .null] μ Q := wm_vc mo_256 (rt := some .boolean) (by decide +kernel) mc_256 140 h
-- WindBoatModel.plans(II)Z, the place 29
set_option maxRecDepth 100000 in
set_option maxHeartbeats 8000000 in
theorem f_256_29 (x1 : Int32) (x3 : Int32) (x4 : Int32) (μ : wm_M) (Q : Option Value → wm_M → Prop) (h : wm_OkI 0 255 [.ref 89, .int x1, .int x4, .int x3] μ (fun r2 μ1 => ((r2 = (0 : Int32) → wm_Wp 0 256 40 [.ref 89, .int x1, .null, .int x3, .int x4] μ1 Q) ∧ (¬ r2 = (0 : Int32) → wm_Wp 0 256 46 [.ref 89, .int x1, .null, .int x3, .int x4] μ1 Q)))) : wm_Wp 0 256 29 [.ref 89, .int x1, .null, .int x3, .int x4] μ Q := wm_vc mo_256 (rt := some .boolean) (by decide +kernel) mc_256 140 h
-- WindBoatModel.plans(II)Z, the place 40
set_option maxRecDepth 100000 in
set_option maxHeartbeats 8000000 in
theorem f_256_40 (x1 : Int32) (x3 : Int32) (x4 : Int32) (μ : wm_M) (Q : Option Value → wm_M → Prop) (h : wm_Wp 0 256 29 [.ref 89, .int x1, .null, .int x3, .int (x4 + (1 : Int32))] μ Q) : wm_Wp 0 256 40 [.ref 89, .int x1, .null, .int x3, .int x4] μ Q := wm_vc mo_256 (rt := some .boolean) (by decide +kernel) mc_256 140 h
-- WindBoatModel.plans(II)Z, the place 46
set_option maxRecDepth 100000 in
set_option maxHeartbeats 8000000 in
theorem f_256_46 (x1 : Int32) (x3 : Int32) (x4 : Int32) (μ : wm_M) (Q : Option Value → wm_M → Prop) (h : (¬ (24 : Int32) = 0 ∧ (¬ (24 : Int32) = 0 ∧ (((x4 / (24 : Int32)) = (x3 / (24 : Int32)) → wm_Wp 0 256 90 [.ref 89, .int x1, .null, .null, .int x4] μ Q) ∧ (¬ (x4 / (24 : Int32)) = (x3 / (24 : Int32)) → (¬ (3 : Int32) = 0 ∧ (¬ (8 : Int32) = 0 ∧ (¬ (3 : Int32) = 0 ∧ (vp_in (μ.1 89 27) 121 ∧ wm_Wp 0 256 80 [.ref 89, .int x1, .null, .null, .int x4] (wm_si μ 97 ((μ.1 89 27)).toNatClampNeg (((10 : Int32) * ((x3 / (3 : Int32)) - (x3 / (3 : Int32)) / (8 : Int32) * (8 : Int32))) + (x3 - x3 / (3 : Int32) * (3 : Int32)))) Q))))))))) : wm_Wp 0 256 46 [.ref 89, .int x1, .null, .int x3, .int x4] μ Q := wm_vc mo_256 (rt := some .boolean) (by decide +kernel) mc_256 140 h
-- WindBoatModel.plans(II)Z, the place 80
set_option maxRecDepth 100000 in
set_option maxHeartbeats 8000000 in
theorem f_256_80 (x1 : Int32) (x4 : Int32) (μ : wm_M) (Q : Option Value → wm_M → Prop) (h : wm_Wp 0 256 90 [.ref 89, .int x1, .null, .null, .int x4] (wm_si μ 89 27 ((μ.1 89 27) + (1 : Int32))) Q) : wm_Wp 0 256 80 [.ref 89, .int x1, .null, .null, .int x4] μ Q := wm_vc mo_256 (rt := some .boolean) (by decide +kernel) mc_256 140 h
-- WindBoatModel.plans(II)Z, the place 90
set_option maxRecDepth 100000 in
set_option maxHeartbeats 8000000 in
theorem f_256_90 (x1 : Int32) (x4 : Int32) (μ : wm_M) (Q : Option Value → wm_M → Prop) (h : wm_Wp 0 256 18 [.ref 89, .int x1, .null, .int x4, .null] μ Q) : wm_Wp 0 256 90 [.ref 89, .int x1, .null, .null, .int x4] μ Q := wm_vc mo_256 (rt := some .boolean) (by decide +kernel) mc_256 140 h
-- WindBoatModel.plans(II)Z, the place 96
set_option maxRecDepth 100000 in
set_option maxHeartbeats 8000000 in
theorem f_256_96 (μ : wm_M) (Q : Option Value → wm_M → Prop) (h : (((1 : Int32) = 0 ∨ (1 : Int32) = 1) ∧ Q (some (.int (1 : Int32))) μ)) : wm_Wp 0 256 96 [.null, .null, .null, .null, .null] μ Q := wm_vc mo_256 (rt := some .boolean) (by decide +kernel) mc_256 140 h
-- WindBoatModel.boatState()I
set_option maxRecDepth 100000 in
set_option maxHeartbeats 8000000 in
theorem f_257 (μ : wm_M) (Q : Option Value → wm_M → Prop) (h : wm_OkI 0 188 [.ref 89, .int (7 : Int32)] μ (fun r2 μ1 => wm_OkI 0 188 [.ref 89, .int (8 : Int32)] μ1 (fun r4 μ3 => wm_OkI 0 188 [.ref 89, .int (9 : Int32)] μ3 (fun r6 μ5 => Q (some (.int (((3 : Int32) * (((8 : Int32) * r2) + r4)) + r6))) μ5)))) : wm_Ok 0 257 [.ref 89] μ Q := wm_ent (nL := 1) (l := [.ref 89]) (by decide +kernel) (by decide +kernel) (by decide +kernel) rfl rfl (wm_vc mo_257 (rt := some .int) (by decide +kernel) mc_257 52 h)
-- WindBoatModel.worksFromBoat(IZ)V
set_option maxRecDepth 100000 in
set_option maxHeartbeats 8000000 in
theorem f_258 (a1 : Int32) (a2 : Int32) (μ : wm_M) (Q : Option Value → wm_M → Prop) (h : wm_OkI 0 188 [.ref 89, .int (10 : Int32)] μ (fun r2 μ1 => wm_OkV 0 246 [.ref 89, .int r2] μ1 (fun μ3 => wm_Wp 0 258 10 [.ref 89, .int a1, .int a2] μ3 Q))) : wm_Ok 0 258 [.ref 89, .int a1, .int a2] μ Q := wm_ent (nL := 3) (l := [.ref 89, .int a1, .int a2]) (by decide +kernel) (by decide +kernel) (by decide +kernel) rfl rfl (wm_vc mo_258 (rt := none) (by decide +kernel) mc_258 64 h)
-- WindBoatModel.worksFromBoat(IZ)V, the place 10
set_option maxRecDepth 100000 in
set_option maxHeartbeats 8000000 in
theorem f_258_10 (x1 : Int32) (x2 : Int32) (μ : wm_M) (Q : Option Value → wm_M → Prop) (h : wm_OkI 0 188 [.ref 89, .int (10 : Int32)] μ (fun r2 μ1 => wm_OkV 0 250 [.ref 89, .int x1, .int x2, .int r2] μ1 (fun μ3 => wm_Wp 0 258 22 [.ref 89, .null, .null] μ3 Q))) : wm_Wp 0 258 10 [.ref 89, .int x1, .int x2] μ Q := wm_vc mo_258 (rt := none) (by decide +kernel) mc_258 64 h
-- WindBoatModel.worksFromBoat(IZ)V, the place 22
set_option maxRecDepth 100000 in
set_option maxHeartbeats 8000000 in
theorem f_258_22 (μ : wm_M) (Q : Option Value → wm_M → Prop) (h : wm_OkI 0 222 [.ref 89] μ (fun r2 μ1 => wm_OkI 0 257 [.ref 89] μ1 (fun r4 μ3 => wm_OkI 0 188 [.ref 89, .int (10 : Int32)] μ3 (fun r6 μ5 => wm_OkV 0 252 [.ref 89, .int r2, .int r4, .int r6] μ5 (fun μ7 => wm_Wp 0 258 40 [.null, .null, .null] μ7 Q))))) : wm_Wp 0 258 22 [.ref 89, .null, .null] μ Q := wm_vc mo_258 (rt := none) (by decide +kernel) mc_258 64 h
-- WindBoatModel.worksFromBoat(IZ)V, the place 40
set_option maxRecDepth 100000 in
set_option maxHeartbeats 8000000 in
theorem f_258_40 (μ : wm_M) (Q : Option Value → wm_M → Prop) (h : Q none μ) : wm_Wp 0 258 40 [.null, .null, .null] μ Q := wm_vc mo_258 (rt := none) (by decide +kernel) mc_258 64 h
-- WindBoatModel.isWindOf(I)Z
set_option maxRecDepth 100000 in
set_option maxHeartbeats 8000000 in
theorem f_259 (a0 : Int32) (μ : wm_M) (Q : Option Value → wm_M → Prop) (h : wm_OkI 0 184 [.int a0, .int (0 : Int32), .int (6 : Int32)] μ (fun r2 μ1 => ((r2 = 0 ∨ r2 = 1) ∧ Q (some (.int r2)) μ1))) : wm_Ok 0 259 [.int a0] μ Q := wm_ent (nL := 1) (l := [.int a0]) (by decide +kernel) (by decide +kernel) (by decide +kernel) rfl rfl (wm_vc mo_259 (rt := some .boolean) (by decide +kernel) mc_259 30 h)
-- WindBoatModel.soonest(III)I
set_option maxRecDepth 100000 in
set_option maxHeartbeats 8000000 in
theorem f_260 (a1 : Int32) (a2 : Int32) (a3 : Int32) (μ : wm_M) (Q : Option Value → wm_M → Prop) (h : wm_OkI 0 188 [.ref 89, .int (6 : Int32)] μ (fun r2 μ1 => ((r2 = (0 : Int32) → wm_Wp 0 260 9 [.ref 89, .null, .null, .null, .null] μ1 Q) ∧ (¬ r2 = (0 : Int32) → wm_Wp 0 260 16 [.ref 89, .int a1, .int a2, .int a3, .null] μ1 Q)))) : wm_Ok 0 260 [.ref 89, .int a1, .int a2, .int a3] μ Q := wm_ent (nL := 5) (l := [.ref 89, .int a1, .int a2, .int a3, .null]) (by decide +kernel) (by decide +kernel) (by decide +kernel) rfl rfl (wm_vc mo_260 (rt := some .int) (by decide +kernel) mc_260 120 h)
-- WindBoatModel.soonest(III)I, the place 9
set_option maxRecDepth 100000 in
set_option maxHeartbeats 8000000 in
theorem f_260_9 (μ : wm_M) (Q : Option Value → wm_M → Prop) (h : wm_OkI 0 185 [.ref 89, .int (-2 : Int32)] μ (fun r2 μ1 => Q (some (.int r2)) μ1)) : wm_Wp 0 260 9 [.ref 89, .null, .null, .null, .null] μ Q := wm_vc mo_260 (rt := some .int) (by decide +kernel) mc_260 120 h
-- WindBoatModel.soonest(III)I, the place 16
set_option maxRecDepth 100000 in
set_option maxHeartbeats 8000000 in
theorem f_260_16 (x1 : Int32) (x2 : Int32) (x3 : Int32) (μ : wm_M) (Q : Option Value → wm_M → Prop) (h : wm_OkI 0 259 [.int x1] μ (fun r2 μ1 => ((r2 = (0 : Int32) → wm_Wp 0 260 30 [.ref 89, .null, .null, .null, .null] μ1 Q) ∧ (¬ r2 = (0 : Int32) → wm_Wp 0 260 23 [.ref 89, .int x1, .int x2, .int x3, .null] μ1 Q)))) : wm_Wp 0 260 16 [.ref 89, .int x1, .int x2, .int x3, .null] μ Q := wm_vc mo_260 (rt := some .int) (by decide +kernel) mc_260 120 h
-- WindBoatModel.soonest(III)I, the place 23
set_option maxRecDepth 100000 in
set_option maxHeartbeats 8000000 in
theorem f_260_23 (x1 : Int32) (x2 : Int32) (x3 : Int32) (μ : wm_M) (Q : Option Value → wm_M → Prop) (h : wm_OkI 0 189 [.int x2] μ (fun r2 μ1 => ((r2 = (0 : Int32) → wm_Wp 0 260 30 [.ref 89, .null, .null, .null, .null] μ1 Q) ∧ (¬ r2 = (0 : Int32) → wm_Wp 0 260 37 [.ref 89, .int x1, .int x2, .int x3, .null] μ1 Q)))) : wm_Wp 0 260 23 [.ref 89, .int x1, .int x2, .int x3, .null] μ Q := wm_vc mo_260 (rt := some .int) (by decide +kernel) mc_260 120 h
-- WindBoatModel.soonest(III)I, the place 30
set_option maxRecDepth 100000 in
set_option maxHeartbeats 8000000 in
theorem f_260_30 (μ : wm_M) (Q : Option Value → wm_M → Prop) (h : wm_OkI 0 185 [.ref 89, .int (-3 : Int32)] μ (fun r2 μ1 => Q (some (.int r2)) μ1)) : wm_Wp 0 260 30 [.ref 89, .null, .null, .null, .null] μ Q := wm_vc mo_260 (rt := some .int) (by decide +kernel) mc_260 120 h
-- WindBoatModel.soonest(III)I, the place 37
set_option maxRecDepth 100000 in
set_option maxHeartbeats 8000000 in
theorem f_260_37 (x1 : Int32) (x2 : Int32) (x3 : Int32) (μ : wm_M) (Q : Option Value → wm_M → Prop) (h : wm_OkI 0 184 [.int x3, .int (0 : Int32), .int (1 : Int32)] μ (fun r2 μ1 => ((r2 = (0 : Int32) → wm_Wp 0 260 46 [.ref 89, .null, .null, .null, .null] μ1 Q) ∧ (¬ r2 = (0 : Int32) → wm_Wp 0 260 53 [.ref 89, .int x1, .int x2, .int x3, .null] μ1 Q)))) : wm_Wp 0 260 37 [.ref 89, .int x1, .int x2, .int x3, .null] μ Q := wm_vc mo_260 (rt := some .int) (by decide +kernel) mc_260 120 h
-- WindBoatModel.soonest(III)I, the place 46
set_option maxRecDepth 100000 in
set_option maxHeartbeats 8000000 in
theorem f_260_46 (μ : wm_M) (Q : Option Value → wm_M → Prop) (h : wm_OkI 0 185 [.ref 89, .int (-7 : Int32)] μ (fun r2 μ1 => Q (some (.int r2)) μ1)) : wm_Wp 0 260 46 [.ref 89, .null, .null, .null, .null] μ Q := wm_vc mo_260 (rt := some .int) (by decide +kernel) mc_260 120 h
-- WindBoatModel.soonest(III)I, the place 53
set_option maxRecDepth 100000 in
set_option maxHeartbeats 8000000 in
theorem f_260_53 (x1 : Int32) (x2 : Int32) (x3 : Int32) (μ : wm_M) (Q : Option Value → wm_M → Prop) (h : ((x3 = (1 : Int32) → wm_OkV 0 258 [.ref 89, .int x1, .int (1 : Int32)] μ (fun μ1 => wm_Wp 0 260 68 [.ref 89, .null, .int x2, .null, .null] μ1 Q)) ∧ (¬ x3 = (1 : Int32) → wm_OkV 0 258 [.ref 89, .int x1, .int (0 : Int32)] μ (fun μ2 => wm_Wp 0 260 68 [.ref 89, .null, .int x2, .null, .null] μ2 Q)))) : wm_Wp 0 260 53 [.ref 89, .int x1, .int x2, .int x3, .null] μ Q := wm_vc mo_260 (rt := some .int) (by decide +kernel) mc_260 120 h
-- WindBoatModel.soonest(III)I, the place 68
set_option maxRecDepth 100000 in
set_option maxHeartbeats 8000000 in
theorem f_260_68 (x2 : Int32) (μ : wm_M) (Q : Option Value → wm_M → Prop) (h : wm_OkI 0 254 [.ref 89, .int x2] μ (fun r2 μ1 => wm_Wp 0 260 75 [.ref 89, .null, .null, .null, .int r2] μ1 Q)) : wm_Wp 0 260 68 [.ref 89, .null, .int x2, .null, .null] μ Q := wm_vc mo_260 (rt := some .int) (by decide +kernel) mc_260 120 h
-- WindBoatModel.soonest(III)I, the place 75
set_option maxRecDepth 100000 in
set_option maxHeartbeats 8000000 in
theorem f_260_75 (x4 : Int32) (μ : wm_M) (Q : Option Value → wm_M → Prop) (h : ((x4 = (-1 : Int32) → Q (some (.int (-1 : Int32))) μ) ∧ (¬ x4 = (-1 : Int32) → wm_Wp 0 260 85 [.ref 89, .null, .null, .null, .int x4] μ Q))) : wm_Wp 0 260 75 [.ref 89, .null, .null, .null, .int x4] μ Q := wm_vc mo_260 (rt := some .int) (by decide +kernel) mc_260 120 h
-- WindBoatModel.soonest(III)I, the place 85
set_option maxRecDepth 100000 in
set_option maxHeartbeats 8000000 in
theorem f_260_85 (x4 : Int32) (μ : wm_M) (Q : Option Value → wm_M → Prop) (h : (vp_in x4 864 ∧ Q (some (.int (μ.1 96 (x4).toNatClampNeg))) μ)) : wm_Wp 0 260 85 [.ref 89, .null, .null, .null, .int x4] μ Q := wm_vc mo_260 (rt := some .int) (by decide +kernel) mc_260 120 h
-- WindBoatModel.plan(III)I
set_option maxRecDepth 100000 in
set_option maxHeartbeats 8000000 in
theorem f_261 (a1 : Int32) (a2 : Int32) (a3 : Int32) (μ : wm_M) (Q : Option Value → wm_M → Prop) (h : wm_OkI 0 188 [.ref 89, .int (6 : Int32)] μ (fun r2 μ1 => ((r2 = (0 : Int32) → wm_Wp 0 261 9 [.ref 89, .null, .null, .null] μ1 Q) ∧ (¬ r2 = (0 : Int32) → wm_Wp 0 261 16 [.ref 89, .int a1, .int a2, .int a3] μ1 Q)))) : wm_Ok 0 261 [.ref 89, .int a1, .int a2, .int a3] μ Q := wm_ent (nL := 4) (l := [.ref 89, .int a1, .int a2, .int a3]) (by decide +kernel) (by decide +kernel) (by decide +kernel) rfl rfl (wm_vc mo_261 (rt := some .int) (by decide +kernel) mc_261 138 h)
-- WindBoatModel.plan(III)I, the place 9
set_option maxRecDepth 100000 in
set_option maxHeartbeats 8000000 in
theorem f_261_9 (μ : wm_M) (Q : Option Value → wm_M → Prop) (h : wm_OkI 0 185 [.ref 89, .int (-2 : Int32)] μ (fun r2 μ1 => Q (some (.int r2)) μ1)) : wm_Wp 0 261 9 [.ref 89, .null, .null, .null] μ Q := wm_vc mo_261 (rt := some .int) (by decide +kernel) mc_261 138 h
-- WindBoatModel.plan(III)I, the place 16
set_option maxRecDepth 100000 in
set_option maxHeartbeats 8000000 in
theorem f_261_16 (x1 : Int32) (x2 : Int32) (x3 : Int32) (μ : wm_M) (Q : Option Value → wm_M → Prop) (h : wm_OkI 0 259 [.int x1] μ (fun r2 μ1 => ((r2 = (0 : Int32) → wm_Wp 0 261 30 [.ref 89, .null, .null, .null] μ1 Q) ∧ (¬ r2 = (0 : Int32) → wm_Wp 0 261 23 [.ref 89, .int x1, .int x2, .int x3] μ1 Q)))) : wm_Wp 0 261 16 [.ref 89, .int x1, .int x2, .int x3] μ Q := wm_vc mo_261 (rt := some .int) (by decide +kernel) mc_261 138 h
-- WindBoatModel.plan(III)I, the place 23
set_option maxRecDepth 100000 in
set_option maxHeartbeats 8000000 in
theorem f_261_23 (x1 : Int32) (x2 : Int32) (x3 : Int32) (μ : wm_M) (Q : Option Value → wm_M → Prop) (h : wm_OkI 0 189 [.int x2] μ (fun r2 μ1 => ((r2 = (0 : Int32) → wm_Wp 0 261 30 [.ref 89, .null, .null, .null] μ1 Q) ∧ (¬ r2 = (0 : Int32) → wm_Wp 0 261 37 [.ref 89, .int x1, .int x2, .int x3] μ1 Q)))) : wm_Wp 0 261 23 [.ref 89, .int x1, .int x2, .int x3] μ Q := wm_vc mo_261 (rt := some .int) (by decide +kernel) mc_261 138 h
-- WindBoatModel.plan(III)I, the place 30
set_option maxRecDepth 100000 in
set_option maxHeartbeats 8000000 in
theorem f_261_30 (μ : wm_M) (Q : Option Value → wm_M → Prop) (h : wm_OkI 0 185 [.ref 89, .int (-3 : Int32)] μ (fun r2 μ1 => Q (some (.int r2)) μ1)) : wm_Wp 0 261 30 [.ref 89, .null, .null, .null] μ Q := wm_vc mo_261 (rt := some .int) (by decide +kernel) mc_261 138 h
-- WindBoatModel.plan(III)I, the place 37
set_option maxRecDepth 100000 in
set_option maxHeartbeats 8000000 in
theorem f_261_37 (x1 : Int32) (x2 : Int32) (x3 : Int32) (μ : wm_M) (Q : Option Value → wm_M → Prop) (h : (((-1 : Int32) ≤ x3 → wm_Wp 0 261 49 [.ref 89, .int x1, .int x2, .int x3] μ Q) ∧ (¬ (-1 : Int32) ≤ x3 → wm_OkI 0 185 [.ref 89, .int (-7 : Int32)] μ (fun r2 μ1 => Q (some (.int r2)) μ1)))) : wm_Wp 0 261 37 [.ref 89, .int x1, .int x2, .int x3] μ Q := wm_vc mo_261 (rt := some .int) (by decide +kernel) mc_261 138 h
-- WindBoatModel.plan(III)I, the place 49
set_option maxRecDepth 100000 in
set_option maxHeartbeats 8000000 in
theorem f_261_49 (x1 : Int32) (x2 : Int32) (x3 : Int32) (μ : wm_M) (Q : Option Value → wm_M → Prop) (h : wm_OkV 0 258 [.ref 89, .int x1, .int (1 : Int32)] μ (fun μ1 => wm_Wp 0 261 55 [.ref 89, .null, .int x2, .int x3] μ1 Q)) : wm_Wp 0 261 49 [.ref 89, .int x1, .int x2, .int x3] μ Q := wm_vc mo_261 (rt := some .int) (by decide +kernel) mc_261 138 h
-- WindBoatModel.plan(III)I, the place 55
set_option maxRecDepth 100000 in
set_option maxHeartbeats 8000000 in
theorem f_261_55 (x2 : Int32) (x3 : Int32) (μ : wm_M) (Q : Option Value → wm_M → Prop) (h : wm_OkI 0 222 [.ref 89] μ (fun r2 μ1 => wm_OkI 0 256 [.ref 89, .int r2, .int x2] μ1 (fun r4 μ3 => ((r4 = (0 : Int32) → wm_Wp 0 261 67 [.null, .null, .null, .null] μ3 Q) ∧ (¬ r4 = (0 : Int32) → wm_Wp 0 261 69 [.ref 89, .null, .null, .int x3] μ3 Q))))) : wm_Wp 0 261 55 [.ref 89, .null, .int x2, .int x3] μ Q := wm_vc mo_261 (rt := some .int) (by decide +kernel) mc_261 138 h
-- WindBoatModel.plan(III)I, the place 67
set_option maxRecDepth 100000 in
set_option maxHeartbeats 8000000 in
theorem f_261_67 (μ : wm_M) (Q : Option Value → wm_M → Prop) (h : Q (some (.int (-1 : Int32))) μ) : wm_Wp 0 261 67 [.null, .null, .null, .null] μ Q := wm_vc mo_261 (rt := some .int) (by decide +kernel) mc_261 138 h
-- WindBoatModel.plan(III)I, the place 69
set_option maxRecDepth 100000 in
set_option maxHeartbeats 8000000 in
theorem f_261_69 (x3 : Int32) (μ : wm_M) (Q : Option Value → wm_M → Prop) (h : ((x3 = (-1 : Int32) → Q (some (.int (μ.1 89 27))) μ) ∧ (¬ x3 = (-1 : Int32) → wm_Wp 0 261 81 [.ref 89, .null, .null, .int x3] μ Q))) : wm_Wp 0 261 69 [.ref 89, .null, .null, .int x3] μ Q := wm_vc mo_261 (rt := some .int) (by decide +kernel) mc_261 138 h
-- WindBoatModel.plan(III)I, the place 81
set_option maxRecDepth 100000 in
set_option maxHeartbeats 8000000 in
theorem f_261_81 (x3 : Int32) (μ : wm_M) (Q : Option Value → wm_M → Prop) (h : (((μ.1 89 27) ≤ x3 → wm_Wp 0 261 105 [.null, .null, .null, .null] μ Q) ∧ (¬ (μ.1 89 27) ≤ x3 → (vp_in (((μ.1 89 27) - (1 : Int32)) - x3) 121 ∧ Q (some (.int (μ.1 97 ((((μ.1 89 27) - (1 : Int32)) - x3)).toNatClampNeg))) μ)))) : wm_Wp 0 261 81 [.ref 89, .null, .null, .int x3] μ Q := wm_vc mo_261 (rt := some .int) (by decide +kernel) mc_261 138 h
-- WindBoatModel.plan(III)I, the place 105
set_option maxRecDepth 100000 in
set_option maxHeartbeats 8000000 in
theorem f_261_105 (μ : wm_M) (Q : Option Value → wm_M → Prop) (h : Q (some (.int (-1 : Int32))) μ) : wm_Wp 0 261 105 [.null, .null, .null, .null] μ Q := wm_vc mo_261 (rt := some .int) (by decide +kernel) mc_261 138 h
-- WindBoatModel.isWorld(I)Z
set_option maxRecDepth 100000 in
set_option maxHeartbeats 8000000 in
theorem f_262 (a0 : Int32) (μ : wm_M) (Q : Option Value → wm_M → Prop) (h : wm_OkI 0 184 [.int a0, .int (0 : Int32), .int (5 : Int32)] μ (fun r2 μ1 => ((r2 = 0 ∨ r2 = 1) ∧ Q (some (.int r2)) μ1))) : wm_Ok 0 262 [.int a0] μ Q := wm_ent (nL := 1) (l := [.int a0]) (by decide +kernel) (by decide +kernel) (by decide +kernel) rfl rfl (wm_vc mo_262 (rt := some .boolean) (by decide +kernel) mc_262 30 h)
-- WindBoatModel.telling(II)I
set_option maxRecDepth 100000 in
set_option maxHeartbeats 8000000 in
theorem f_263 (a1 : Int32) (a2 : Int32) (μ : wm_M) (Q : Option Value → wm_M → Prop) (h : wm_OkI 0 184 [.int a1, .int (0 : Int32), .int (120 : Int32)] μ (fun r2 μ1 => ((r2 = (0 : Int32) → wm_Wp 0 263 20 [.ref 89, .null, .null, .null] μ1 Q) ∧ (¬ r2 = (0 : Int32) → wm_Wp 0 263 10 [.ref 89, .int a1, .int a2, .null] μ1 Q)))) : wm_Ok 0 263 [.ref 89, .int a1, .int a2] μ Q := wm_ent (nL := 4) (l := [.ref 89, .int a1, .int a2, .null]) (by decide +kernel) (by decide +kernel) (by decide +kernel) rfl rfl (wm_vc mo_263 (rt := some .int) (by decide +kernel) mc_263 80 h)
-- WindBoatModel.telling(II)I, the place 10
set_option maxRecDepth 100000 in
set_option maxHeartbeats 8000000 in
theorem f_263_10 (x1 : Int32) (x2 : Int32) (μ : wm_M) (Q : Option Value → wm_M → Prop) (h : wm_OkI 0 184 [.int x2, .int x1, .int (120 : Int32)] μ (fun r2 μ1 => ((r2 = (0 : Int32) → wm_Wp 0 263 20 [.ref 89, .null, .null, .null] μ1 Q) ∧ (¬ r2 = (0 : Int32) → wm_Wp 0 263 27 [.ref 89, .int x1, .int x2, .null] μ1 Q)))) : wm_Wp 0 263 10 [.ref 89, .int x1, .int x2, .null] μ Q := wm_vc mo_263 (rt := some .int) (by decide +kernel) mc_263 80 h
-- WindBoatModel.telling(II)I, the place 20
set_option maxRecDepth 100000 in
set_option maxHeartbeats 8000000 in
theorem f_263_20 (μ : wm_M) (Q : Option Value → wm_M → Prop) (h : wm_OkI 0 185 [.ref 89, .int (-7 : Int32)] μ (fun r2 μ1 => Q (some (.int r2)) μ1)) : wm_Wp 0 263 20 [.ref 89, .null, .null, .null] μ Q := wm_vc mo_263 (rt := some .int) (by decide +kernel) mc_263 80 h
-- WindBoatModel.telling(II)I, the place 27
set_option maxRecDepth 100000 in
set_option maxHeartbeats 8000000 in
theorem f_263_27 (x1 : Int32) (x2 : Int32) (μ : wm_M) (Q : Option Value → wm_M → Prop) (h : wm_OkI 0 188 [.ref 89, .int (3 : Int32)] μ (fun r2 μ1 => wm_Wp 0 263 33 [.ref 89, .int x1, .int x2, .int r2] μ1 Q)) : wm_Wp 0 263 27 [.ref 89, .int x1, .int x2, .null] μ Q := wm_vc mo_263 (rt := some .int) (by decide +kernel) mc_263 80 h
-- WindBoatModel.telling(II)I, the place 33
set_option maxRecDepth 100000 in
set_option maxHeartbeats 8000000 in
theorem f_263_33 (x1 : Int32) (x2 : Int32) (x3 : Int32) (μ : wm_M) (Q : Option Value → wm_M → Prop) (h : (vp_in (2043 : Int32) 2060 ∧ wm_Wp 0 263 42 [.ref 89, .null, .int x2, .int x3] (wm_si μ 91 ((2043 : Int32)).toNatClampNeg x1) Q)) : wm_Wp 0 263 33 [.ref 89, .int x1, .int x2, .int x3] μ Q := wm_vc mo_263 (rt := some .int) (by decide +kernel) mc_263 80 h
-- WindBoatModel.telling(II)I, the place 42
set_option maxRecDepth 100000 in
set_option maxHeartbeats 8000000 in
theorem f_263_42 (x2 : Int32) (x3 : Int32) (μ : wm_M) (Q : Option Value → wm_M → Prop) (h : (vp_in (2044 : Int32) 2060 ∧ wm_Wp 0 263 51 [.null, .null, .null, .int x3] (wm_si μ 91 ((2044 : Int32)).toNatClampNeg x2) Q)) : wm_Wp 0 263 42 [.ref 89, .null, .int x2, .int x3] μ Q := wm_vc mo_263 (rt := some .int) (by decide +kernel) mc_263 80 h
-- WindBoatModel.telling(II)I, the place 51
set_option maxRecDepth 100000 in
set_option maxHeartbeats 8000000 in
theorem f_263_51 (x3 : Int32) (μ : wm_M) (Q : Option Value → wm_M → Prop) (h : Q (some (.int x3)) μ) : wm_Wp 0 263 51 [.null, .null, .null, .int x3] μ Q := wm_vc mo_263 (rt := some .int) (by decide +kernel) mc_263 80 h
-- WindBoatModel.choice(II)I
set_option maxRecDepth 100000 in
set_option maxHeartbeats 8000000 in
theorem f_264 (a1 : Int32) (a2 : Int32) (μ : wm_M) (Q : Option Value → wm_M → Prop) (h : wm_OkI 0 184 [.int a1, .int (0 : Int32), .int (2 : Int32)] μ (fun r2 μ1 => ((r2 = (0 : Int32) → wm_Wp 0 264 16 [.ref 89, .null, .null, .null] μ1 Q) ∧ (¬ r2 = (0 : Int32) → wm_Wp 0 264 9 [.ref 89, .int a1, .int a2, .null] μ1 Q)))) : wm_Ok 0 264 [.ref 89, .int a1, .int a2] μ Q := wm_ent (nL := 4) (l := [.ref 89, .int a1, .int a2, .null]) (by decide +kernel) (by decide +kernel) (by decide +kernel) rfl rfl (wm_vc mo_264 (rt := some .int) (by decide +kernel) mc_264 76 h)
-- WindBoatModel.choice(II)I, the place 9
set_option maxRecDepth 100000 in
set_option maxHeartbeats 8000000 in
theorem f_264_9 (x1 : Int32) (x2 : Int32) (μ : wm_M) (Q : Option Value → wm_M → Prop) (h : wm_OkI 0 189 [.int x2] μ (fun r2 μ1 => ((r2 = (0 : Int32) → wm_Wp 0 264 16 [.ref 89, .null, .null, .null] μ1 Q) ∧ (¬ r2 = (0 : Int32) → wm_Wp 0 264 23 [.ref 89, .int x1, .int x2, .null] μ1 Q)))) : wm_Wp 0 264 9 [.ref 89, .int x1, .int x2, .null] μ Q := wm_vc mo_264 (rt := some .int) (by decide +kernel) mc_264 76 h
-- WindBoatModel.choice(II)I, the place 16
set_option maxRecDepth 100000 in
set_option maxHeartbeats 8000000 in
theorem f_264_16 (μ : wm_M) (Q : Option Value → wm_M → Prop) (h : wm_OkI 0 185 [.ref 89, .int (-3 : Int32)] μ (fun r2 μ1 => Q (some (.int r2)) μ1)) : wm_Wp 0 264 16 [.ref 89, .null, .null, .null] μ Q := wm_vc mo_264 (rt := some .int) (by decide +kernel) mc_264 76 h
-- WindBoatModel.choice(II)I, the place 23
set_option maxRecDepth 100000 in
set_option maxHeartbeats 8000000 in
theorem f_264_23 (x1 : Int32) (x2 : Int32) (μ : wm_M) (Q : Option Value → wm_M → Prop) (h : (vp_in ((2001 : Int32) + x1) 2060 ∧ (vp_in ((2001 : Int32) + x1) 2060 ∧ wm_Wp 0 264 45 [.null, .null, .null, .int (μ.1 91 (((2001 : Int32) + x1)).toNatClampNeg)] (wm_si μ 91 (((2001 : Int32) + x1)).toNatClampNeg x2) Q))) : wm_Wp 0 264 23 [.ref 89, .int x1, .int x2, .null] μ Q := wm_vc mo_264 (rt := some .int) (by decide +kernel) mc_264 76 h
-- WindBoatModel.choice(II)I, the place 45
set_option maxRecDepth 100000 in
set_option maxHeartbeats 8000000 in
theorem f_264_45 (x3 : Int32) (μ : wm_M) (Q : Option Value → wm_M → Prop) (h : Q (some (.int x3)) μ) : wm_Wp 0 264 45 [.null, .null, .null, .int x3] μ Q := wm_vc mo_264 (rt := some .int) (by decide +kernel) mc_264 76 h
-- WindBoatModel.group(II)I
set_option maxRecDepth 100000 in
set_option maxHeartbeats 8000000 in
theorem f_265 (a1 : Int32) (a2 : Int32) (μ : wm_M) (Q : Option Value → wm_M → Prop) (h : wm_OkI 0 262 [.int a1] μ (fun r2 μ1 => ((r2 = (0 : Int32) → wm_Wp 0 265 7 [.ref 89, .null, .null, .null] μ1 Q) ∧ (¬ r2 = (0 : Int32) → wm_Wp 0 265 14 [.ref 89, .int a1, .int a2, .null] μ1 Q)))) : wm_Ok 0 265 [.ref 89, .int a1, .int a2] μ Q := wm_ent (nL := 4) (l := [.ref 89, .int a1, .int a2, .null]) (by decide +kernel) (by decide +kernel) (by decide +kernel) rfl rfl (wm_vc mo_265 (rt := some .int) (by decide +kernel) mc_265 84 h)
-- WindBoatModel.group(II)I, the place 7
set_option maxRecDepth 100000 in
set_option maxHeartbeats 8000000 in
theorem f_265_7 (μ : wm_M) (Q : Option Value → wm_M → Prop) (h : wm_OkI 0 185 [.ref 89, .int (-3 : Int32)] μ (fun r2 μ1 => Q (some (.int r2)) μ1)) : wm_Wp 0 265 7 [.ref 89, .null, .null, .null] μ Q := wm_vc mo_265 (rt := some .int) (by decide +kernel) mc_265 84 h
-- WindBoatModel.group(II)I, the place 14
set_option maxRecDepth 100000 in
set_option maxHeartbeats 8000000 in
theorem f_265_14 (x1 : Int32) (x2 : Int32) (μ : wm_M) (Q : Option Value → wm_M → Prop) (h : wm_OkI 0 184 [.int x2, .int (0 : Int32), .int (2 : Int32)] μ (fun r2 μ1 => ((r2 = (0 : Int32) → wm_Wp 0 265 23 [.ref 89, .null, .null, .null] μ1 Q) ∧ (¬ r2 = (0 : Int32) → wm_Wp 0 265 30 [.ref 89, .int x1, .int x2, .null] μ1 Q)))) : wm_Wp 0 265 14 [.ref 89, .int x1, .int x2, .null] μ Q := wm_vc mo_265 (rt := some .int) (by decide +kernel) mc_265 84 h
-- WindBoatModel.group(II)I, the place 23
set_option maxRecDepth 100000 in
set_option maxHeartbeats 8000000 in
theorem f_265_23 (μ : wm_M) (Q : Option Value → wm_M → Prop) (h : wm_OkI 0 185 [.ref 89, .int (-7 : Int32)] μ (fun r2 μ1 => Q (some (.int r2)) μ1)) : wm_Wp 0 265 23 [.ref 89, .null, .null, .null] μ Q := wm_vc mo_265 (rt := some .int) (by decide +kernel) mc_265 84 h
-- WindBoatModel.group(II)I, the place 30
set_option maxRecDepth 100000 in
set_option maxHeartbeats 8000000 in
theorem f_265_30 (x1 : Int32) (x2 : Int32) (μ : wm_M) (Q : Option Value → wm_M → Prop) (h : (vp_in ((1995 : Int32) + x1) 2060 ∧ (vp_in ((1995 : Int32) + x1) 2060 ∧ wm_Wp 0 265 52 [.null, .null, .null, .int (μ.1 91 (((1995 : Int32) + x1)).toNatClampNeg)] (wm_si μ 91 (((1995 : Int32) + x1)).toNatClampNeg x2) Q))) : wm_Wp 0 265 30 [.ref 89, .int x1, .int x2, .null] μ Q := wm_vc mo_265 (rt := some .int) (by decide +kernel) mc_265 84 h
-- WindBoatModel.group(II)I, the place 52
set_option maxRecDepth 100000 in
set_option maxHeartbeats 8000000 in
theorem f_265_52 (x3 : Int32) (μ : wm_M) (Q : Option Value → wm_M → Prop) (h : Q (some (.int x3)) μ) : wm_Wp 0 265 52 [.null, .null, .null, .int x3] μ Q := wm_vc mo_265 (rt := some .int) (by decide +kernel) mc_265 84 h
-- WindBoatModel.isTold(I)Z
set_option maxRecDepth 100000 in
set_option maxHeartbeats 8000000 in
theorem f_266 (a1 : Int32) (μ : wm_M) (Q : Option Value → wm_M → Prop) (h : wm_Wp 0 266 4 [.ref 89, .int a1, .int (0 : Int32), .int (0 : Int32)] μ Q) : wm_Ok 0 266 [.ref 89, .int a1] μ Q := wm_ent (nL := 4) (l := [.ref 89, .int a1, .null, .null]) (by decide +kernel) (by decide +kernel) (by decide +kernel) rfl rfl (wm_vc mo_266 (rt := some .boolean) (by decide +kernel) mc_266 78 h)
-- WindBoatModel.isTold(I)Z, the place 4
set_option maxRecDepth 100000 in
set_option maxHeartbeats 8000000 in
theorem f_266_4 (x1 : Int32) (x2 : Int32) (x3 : Int32) (μ : wm_M) (Q : Option Value → wm_M → Prop) (h : (((12 : Int32) ≤ x3 → wm_Wp 0 266 45 [.null, .null, .int x2, .null] μ Q) ∧ (¬ (12 : Int32) ≤ x3 → ((x2 = (0 : Int32) → (vp_in (((240 : Int32) + ((12 : Int32) * x1)) + x3) 2060 ∧ (((μ.1 91 ((((240 : Int32) + ((12 : Int32) * x1)) + x3)).toNatClampNeg) = (1 : Int32) → wm_Wp 0 266 33 [.ref 89, .int x1, .null, .int x3] μ Q) ∧ (¬ (μ.1 91 ((((240 : Int32) + ((12 : Int32) * x1)) + x3)).toNatClampNeg) = (1 : Int32) → wm_Wp 0 266 37 [.ref 89, .int x1, .null, .int x3] μ Q)))) ∧ (¬ x2 = (0 : Int32) → wm_Wp 0 266 33 [.ref 89, .int x1, .null, .int x3] μ Q))))) : wm_Wp 0 266 4 [.ref 89, .int x1, .int x2, .int x3] μ Q := wm_vc mo_266 (rt := some .boolean) (by decide +kernel) mc_266 78 h
-- WindBoatModel.isTold(I)Z, the place 33
set_option maxRecDepth 100000 in
set_option maxHeartbeats 8000000 in
theorem f_266_33 (x1 : Int32) (x3 : Int32) (μ : wm_M) (Q : Option Value → wm_M → Prop) (h : wm_Wp 0 266 4 [.ref 89, .int x1, .int (1 : Int32), .int (x3 + (1 : Int32))] μ Q) : wm_Wp 0 266 33 [.ref 89, .int x1, .null, .int x3] μ Q := wm_vc mo_266 (rt := some .boolean) (by decide +kernel) mc_266 78 h
-- WindBoatModel.isTold(I)Z, the place 37
set_option maxRecDepth 100000 in
set_option maxHeartbeats 8000000 in
theorem f_266_37 (x1 : Int32) (x3 : Int32) (μ : wm_M) (Q : Option Value → wm_M → Prop) (h : wm_Wp 0 266 4 [.ref 89, .int x1, .int (0 : Int32), .int (x3 + (1 : Int32))] μ Q) : wm_Wp 0 266 37 [.ref 89, .int x1, .null, .int x3] μ Q := wm_vc mo_266 (rt := some .boolean) (by decide +kernel) mc_266 78 h
-- WindBoatModel.isTold(I)Z, the place 45
set_option maxRecDepth 100000 in
set_option maxHeartbeats 8000000 in
theorem f_266_45 (x2 : Int32) (μ : wm_M) (Q : Option Value → wm_M → Prop) (h : ((x2 = 0 ∨ x2 = 1) ∧ Q (some (.int x2)) μ)) : wm_Wp 0 266 45 [.null, .null, .int x2, .null] μ Q := wm_vc mo_266 (rt := some .boolean) (by decide +kernel) mc_266 78 h
-- WindBoatModel.worksOut(II)V
set_option maxRecDepth 100000 in
set_option maxHeartbeats 8000000 in
theorem f_267 (a1 : Int32) (a2 : Int32) (μ : wm_M) (Q : Option Value → wm_M → Prop) (h : wm_OkI 0 188 [.ref 89, .int (10 : Int32)] μ (fun r2 μ1 => wm_OkV 0 250 [.ref 89, .int a1, .int (1 : Int32), .int r2] μ1 (fun μ3 => wm_Wp 0 267 12 [.ref 89, .int a1, .int a2, .null, .null, .null, .null] μ3 Q))) : wm_Ok 0 267 [.ref 89, .int a1, .int a2] μ Q := wm_ent (nL := 7) (l := [.ref 89, .int a1, .int a2, .null, .null, .null, .null]) (by decide +kernel) (by decide +kernel) (by decide +kernel) rfl rfl (wm_vc mo_267 (rt := none) (by decide +kernel) mc_267 484 h)
-- WindBoatModel.worksOut(II)V, the place 12
set_option maxRecDepth 100000 in
set_option maxHeartbeats 8000000 in
theorem f_267_12 (x1 : Int32) (x2 : Int32) (μ : wm_M) (Q : Option Value → wm_M → Prop) (h : wm_OkI 0 257 [.ref 89] μ (fun r2 μ1 => wm_OkI 0 188 [.ref 89, .int (10 : Int32)] μ1 (fun r4 μ3 => wm_OkV 0 252 [.ref 89, .int x2, .int r2, .int r4] μ3 (fun μ5 => wm_Wp 0 267 27 [.ref 89, .int x1, .int x2, .null, .null, .null, .null] μ5 Q)))) : wm_Wp 0 267 12 [.ref 89, .int x1, .int x2, .null, .null, .null, .null] μ Q := wm_vc mo_267 (rt := none) (by decide +kernel) mc_267 484 h
-- WindBoatModel.worksOut(II)V, the place 27
set_option maxRecDepth 100000 in
set_option maxHeartbeats 8000000 in
theorem f_267_27 (x1 : Int32) (x2 : Int32) (μ : wm_M) (Q : Option Value → wm_M → Prop) (h : wm_OkI 0 188 [.ref 89, .int (5 : Int32)] μ (fun r2 μ1 => wm_OkI 0 254 [.ref 89, .int r2] μ1 (fun r4 μ3 => wm_Wp 0 267 37 [.ref 89, .int x1, .int x2, .int r4, .null, .null, .null] μ3 Q))) : wm_Wp 0 267 27 [.ref 89, .int x1, .int x2, .null, .null, .null, .null] μ Q := wm_vc mo_267 (rt := none) (by decide +kernel) mc_267 484 h
-- WindBoatModel.worksOut(II)V, the place 37
set_option maxRecDepth 100000 in
set_option maxHeartbeats 8000000 in
theorem f_267_37 (x1 : Int32) (x2 : Int32) (x3 : Int32) (μ : wm_M) (Q : Option Value → wm_M → Prop) (h : ((x3 = (-1 : Int32) → (vp_in x1 6 ∧ wm_Wp 0 267 60 [.ref 89, .int x1, .int x2, .null, .null, .null, .null] (wm_si μ 99 (x1).toNatClampNeg (999 : Int32)) Q)) ∧ (¬ x3 = (-1 : Int32) → (vp_in x3 864 ∧ (vp_in x1 6 ∧ wm_Wp 0 267 60 [.ref 89, .int x1, .int x2, .null, .null, .null, .null] (wm_si μ 99 (x1).toNatClampNeg (μ.1 96 (x3).toNatClampNeg)) Q))))) : wm_Wp 0 267 37 [.ref 89, .int x1, .int x2, .int x3, .null, .null, .null] μ Q := wm_vc mo_267 (rt := none) (by decide +kernel) mc_267 484 h
-- WindBoatModel.worksOut(II)V, the place 60
set_option maxRecDepth 100000 in
set_option maxHeartbeats 8000000 in
theorem f_267_60 (x1 : Int32) (x2 : Int32) (μ : wm_M) (Q : Option Value → wm_M → Prop) (h : wm_Wp 0 267 63 [.ref 89, .int x1, .int x2, .null, .int (0 : Int32), .null, .null] μ Q) : wm_Wp 0 267 60 [.ref 89, .int x1, .int x2, .null, .null, .null, .null] μ Q := wm_vc mo_267 (rt := none) (by decide +kernel) mc_267 484 h
-- WindBoatModel.worksOut(II)V, the place 63
set_option maxRecDepth 100000 in
set_option maxHeartbeats 8000000 in
theorem f_267_63 (x1 : Int32) (x2 : Int32) (x4 : Int32) (μ : wm_M) (Q : Option Value → wm_M → Prop) (h : (((3 : Int32) ≤ x4 → wm_Wp 0 267 131 [.ref 89, .int x1, .int x2, .null, .null, .null, .null] μ Q) ∧ (¬ (3 : Int32) ≤ x4 → (vp_in ((2001 : Int32) + x4) 2060 ∧ wm_OkI 0 254 [.ref 89, .int (μ.1 91 (((2001 : Int32) + x4)).toNatClampNeg)] μ (fun r2 μ1 => (vp_in x4 3 ∧ wm_Wp 0 267 91 [.ref 89, .int x1, .int x2, .null, .int x4, .null, .null] (wm_si μ1 100 (x4).toNatClampNeg r2) Q)))))) : wm_Wp 0 267 63 [.ref 89, .int x1, .int x2, .null, .int x4, .null, .null] μ Q := wm_vc mo_267 (rt := none) (by decide +kernel) mc_267 484 h
-- WindBoatModel.worksOut(II)V, the place 91
set_option maxRecDepth 100000 in
set_option maxHeartbeats 8000000 in
theorem f_267_91 (x1 : Int32) (x2 : Int32) (x4 : Int32) (μ : wm_M) (Q : Option Value → wm_M → Prop) (h : (vp_in x4 3 ∧ (((μ.1 100 (x4).toNatClampNeg) = (-1 : Int32) → (vp_in x4 3 ∧ wm_Wp 0 267 125 [.ref 89, .int x1, .int x2, .null, .int x4, .null, .null] (wm_si μ 101 (x4).toNatClampNeg (0 : Int32)) Q)) ∧ (¬ (μ.1 100 (x4).toNatClampNeg) = (-1 : Int32) → (vp_in x4 3 ∧ (vp_in (μ.1 100 (x4).toNatClampNeg) 864 ∧ (vp_in x4 3 ∧ wm_Wp 0 267 125 [.ref 89, .int x1, .int x2, .null, .int x4, .null, .null] (wm_si μ 101 (x4).toNatClampNeg (μ.1 96 ((μ.1 100 (x4).toNatClampNeg)).toNatClampNeg)) Q))))))) : wm_Wp 0 267 91 [.ref 89, .int x1, .int x2, .null, .int x4, .null, .null] μ Q := wm_vc mo_267 (rt := none) (by decide +kernel) mc_267 484 h
-- WindBoatModel.worksOut(II)V, the place 125
set_option maxRecDepth 100000 in
set_option maxHeartbeats 8000000 in
theorem f_267_125 (x1 : Int32) (x2 : Int32) (x4 : Int32) (μ : wm_M) (Q : Option Value → wm_M → Prop) (h : wm_Wp 0 267 63 [.ref 89, .int x1, .int x2, .null, .int (x4 + (1 : Int32)), .null, .null] μ Q) : wm_Wp 0 267 125 [.ref 89, .int x1, .int x2, .null, .int x4, .null, .null] μ Q := wm_vc mo_267 (rt := none) (by decide +kernel) mc_267 484 h
-- WindBoatModel.worksOut(II)V, the place 131
set_option maxRecDepth 100000 in
set_option maxHeartbeats 8000000 in
theorem f_267_131 (x1 : Int32) (x2 : Int32) (μ : wm_M) (Q : Option Value → wm_M → Prop) (h : wm_Wp 0 267 134 [.ref 89, .int x1, .int x2, .null, .int (0 : Int32), .null, .null] μ Q) : wm_Wp 0 267 131 [.ref 89, .int x1, .int x2, .null, .null, .null, .null] μ Q := wm_vc mo_267 (rt := none) (by decide +kernel) mc_267 484 h
-- WindBoatModel.worksOut(II)V, the place 134
set_option maxRecDepth 100000 in
set_option maxHeartbeats 8000000 in
theorem f_267_134 (x1 : Int32) (x2 : Int32) (x4 : Int32) (μ : wm_M) (Q : Option Value → wm_M → Prop) (h : (((3 : Int32) ≤ x4 → wm_Wp 0 267 426 [.null, .null, .null, .null, .null, .null, .null] μ Q) ∧ (¬ (3 : Int32) ≤ x4 → wm_Wp 0 267 143 [.ref 89, .int x1, .int x2, .null, .int x4, .int (0 : Int32), .null] μ Q))) : wm_Wp 0 267 134 [.ref 89, .int x1, .int x2, .null, .int x4, .null, .null] μ Q := wm_vc mo_267 (rt := none) (by decide +kernel) mc_267 484 h
-- WindBoatModel.worksOut(II)V, the place 143
set_option maxRecDepth 100000 in
set_option maxHeartbeats 8000000 in
theorem f_267_143 (x1 : Int32) (x2 : Int32) (x4 : Int32) (x5 : Int32) (μ : wm_M) (Q : Option Value → wm_M → Prop) (h : (((3 : Int32) ≤ x5 → wm_Wp 0 267 175 [.ref 89, .int x1, .int x2, .null, .int x4, .null, .null] μ Q) ∧ (¬ (3 : Int32) ≤ x5 → (vp_in ((((9 : Int32) * x1) + ((3 : Int32) * x4)) + x5) 54 ∧ wm_Wp 0 267 169 [.ref 89, .int x1, .int x2, .null, .int x4, .int x5, .null] (wm_si μ 98 (((((9 : Int32) * x1) + ((3 : Int32) * x4)) + x5)).toNatClampNeg (999 : Int32)) Q)))) : wm_Wp 0 267 143 [.ref 89, .int x1, .int x2, .null, .int x4, .int x5, .null] μ Q := wm_vc mo_267 (rt := none) (by decide +kernel) mc_267 484 h
-- WindBoatModel.worksOut(II)V, the place 169
set_option maxRecDepth 100000 in
set_option maxHeartbeats 8000000 in
theorem f_267_169 (x1 : Int32) (x2 : Int32) (x4 : Int32) (x5 : Int32) (μ : wm_M) (Q : Option Value → wm_M → Prop) (h : wm_Wp 0 267 143 [.ref 89, .int x1, .int x2, .null, .int x4, .int (x5 + (1 : Int32)), .null] μ Q) : wm_Wp 0 267 169 [.ref 89, .int x1, .int x2, .null, .int x4, .int x5, .null] μ Q := wm_vc mo_267 (rt := none) (by decide +kernel) mc_267 484 h
-- WindBoatModel.worksOut(II)V, the place 175
set_option maxRecDepth 100000 in
set_option maxHeartbeats 8000000 in
theorem f_267_175 (x1 : Int32) (x2 : Int32) (x4 : Int32) (μ : wm_M) (Q : Option Value → wm_M → Prop) (h : (vp_in x4 3 ∧ (((μ.1 100 (x4).toNatClampNeg) = (-1 : Int32) → wm_Wp 0 267 420 [.ref 89, .int x1, .int x2, .null, .int x4, .null, .null] μ Q) ∧ (¬ (μ.1 100 (x4).toNatClampNeg) = (-1 : Int32) → wm_Wp 0 267 189 [.ref 89, .int x1, .int x2, .null, .int x4, .null, .null] μ Q)))) : wm_Wp 0 267 175 [.ref 89, .int x1, .int x2, .null, .int x4, .null, .null] μ Q := wm_vc mo_267 (rt := none) (by decide +kernel) mc_267 484 h
-- WindBoatModel.worksOut(II)V, the place 189
set_option maxRecDepth 100000 in
set_option maxHeartbeats 8000000 in
theorem f_267_189 (x1 : Int32) (x2 : Int32) (x4 : Int32) (μ : wm_M) (Q : Option Value → wm_M → Prop) (h : (vp_in x4 3 ∧ (vp_in x4 3 ∧ wm_OkI 0 188 [.ref 89, .int (3 : Int32)] μ (fun r2 μ1 => (((μ.1 101 (x4).toNatClampNeg) ≤ r2 → wm_OkI 0 188 [.ref 89, .int (3 : Int32)] μ1 (fun r4 μ3 => wm_OkV 0 252 [.ref 89, .int x2, .int (μ.1 100 (x4).toNatClampNeg), .int r4] μ3 (fun μ5 => wm_Wp 0 267 231 [.ref 89, .int x1, .int x2, .null, .int x4, .null, .null] μ5 Q))) ∧ (¬ (μ.1 101 (x4).toNatClampNeg) ≤ r2 → (vp_in x4 3 ∧ wm_OkV 0 252 [.ref 89, .int x2, .int (μ.1 100 (x4).toNatClampNeg), .int (μ1.1 101 (x4).toNatClampNeg)] μ1 (fun μ6 => wm_Wp 0 267 231 [.ref 89, .int x1, .int x2, .null, .int x4, .null, .null] μ6 Q)))))))) : wm_Wp 0 267 189 [.ref 89, .int x1, .int x2, .null, .int x4, .null, .null] μ Q := wm_vc mo_267 (rt := none) (by decide +kernel) mc_267 484 h
-- WindBoatModel.worksOut(II)V, the place 231
set_option maxRecDepth 100000 in
set_option maxHeartbeats 8000000 in
theorem f_267_231 (x1 : Int32) (x2 : Int32) (x4 : Int32) (μ : wm_M) (Q : Option Value → wm_M → Prop) (h : wm_Wp 0 267 234 [.ref 89, .int x1, .int x2, .null, .int x4, .int (0 : Int32), .null] μ Q) : wm_Wp 0 267 231 [.ref 89, .int x1, .int x2, .null, .int x4, .null, .null] μ Q := wm_vc mo_267 (rt := none) (by decide +kernel) mc_267 484 h
-- WindBoatModel.worksOut(II)V, the place 234
set_option maxRecDepth 100000 in
set_option maxHeartbeats 8000000 in
theorem f_267_234 (x1 : Int32) (x2 : Int32) (x4 : Int32) (x5 : Int32) (μ : wm_M) (Q : Option Value → wm_M → Prop) (h : (((3 : Int32) ≤ x5 → wm_Wp 0 267 302 [.ref 89, .int x1, .int x2, .null, .int x4, .null, .null] μ Q) ∧ (¬ (3 : Int32) ≤ x5 → (vp_in ((2001 : Int32) + x5) 2060 ∧ wm_OkI 0 254 [.ref 89, .int (μ.1 91 (((2001 : Int32) + x5)).toNatClampNeg)] μ (fun r2 μ1 => (vp_in x5 3 ∧ wm_Wp 0 267 262 [.ref 89, .int x1, .int x2, .null, .int x4, .int x5, .null] (wm_si μ1 102 (x5).toNatClampNeg r2) Q)))))) : wm_Wp 0 267 234 [.ref 89, .int x1, .int x2, .null, .int x4, .int x5, .null] μ Q := wm_vc mo_267 (rt := none) (by decide +kernel) mc_267 484 h
-- WindBoatModel.worksOut(II)V, the place 262
set_option maxRecDepth 100000 in
set_option maxHeartbeats 8000000 in
theorem f_267_262 (x1 : Int32) (x2 : Int32) (x4 : Int32) (x5 : Int32) (μ : wm_M) (Q : Option Value → wm_M → Prop) (h : (vp_in x5 3 ∧ (((μ.1 102 (x5).toNatClampNeg) = (-1 : Int32) → (vp_in x5 3 ∧ wm_Wp 0 267 296 [.ref 89, .int x1, .int x2, .null, .int x4, .int x5, .null] (wm_si μ 103 (x5).toNatClampNeg (0 : Int32)) Q)) ∧ (¬ (μ.1 102 (x5).toNatClampNeg) = (-1 : Int32) → (vp_in x5 3 ∧ (vp_in (μ.1 102 (x5).toNatClampNeg) 864 ∧ (vp_in x5 3 ∧ wm_Wp 0 267 296 [.ref 89, .int x1, .int x2, .null, .int x4, .int x5, .null] (wm_si μ 103 (x5).toNatClampNeg (μ.1 96 ((μ.1 102 (x5).toNatClampNeg)).toNatClampNeg)) Q))))))) : wm_Wp 0 267 262 [.ref 89, .int x1, .int x2, .null, .int x4, .int x5, .null] μ Q := wm_vc mo_267 (rt := none) (by decide +kernel) mc_267 484 h
-- WindBoatModel.worksOut(II)V, the place 296
set_option maxRecDepth 100000 in
set_option maxHeartbeats 8000000 in
theorem f_267_296 (x1 : Int32) (x2 : Int32) (x4 : Int32) (x5 : Int32) (μ : wm_M) (Q : Option Value → wm_M → Prop) (h : wm_Wp 0 267 234 [.ref 89, .int x1, .int x2, .null, .int x4, .int (x5 + (1 : Int32)), .null] μ Q) : wm_Wp 0 267 296 [.ref 89, .int x1, .int x2, .null, .int x4, .int x5, .null] μ Q := wm_vc mo_267 (rt := none) (by decide +kernel) mc_267 484 h
-- WindBoatModel.worksOut(II)V, the place 302
set_option maxRecDepth 100000 in
set_option maxHeartbeats 8000000 in
theorem f_267_302 (x1 : Int32) (x2 : Int32) (x4 : Int32) (μ : wm_M) (Q : Option Value → wm_M → Prop) (h : wm_Wp 0 267 305 [.ref 89, .int x1, .int x2, .null, .int x4, .int (0 : Int32), .null] μ Q) : wm_Wp 0 267 302 [.ref 89, .int x1, .int x2, .null, .int x4, .null, .null] μ Q := wm_vc mo_267 (rt := none) (by decide +kernel) mc_267 484 h
-- WindBoatModel.worksOut(II)V, the place 305
set_option maxRecDepth 100000 in
set_option maxHeartbeats 8000000 in
theorem f_267_305 (x1 : Int32) (x2 : Int32) (x4 : Int32) (x5 : Int32) (μ : wm_M) (Q : Option Value → wm_M → Prop) (h : (((3 : Int32) ≤ x5 → wm_Wp 0 267 420 [.ref 89, .int x1, .int x2, .null, .int x4, .null, .null] μ Q) ∧ (¬ (3 : Int32) ≤ x5 → (vp_in x5 3 ∧ (((μ.1 102 (x5).toNatClampNeg) = (-1 : Int32) → wm_Wp 0 267 414 [.ref 89, .int x1, .int x2, .null, .int x4, .int x5, .null] μ Q) ∧ (¬ (μ.1 102 (x5).toNatClampNeg) = (-1 : Int32) → wm_Wp 0 267 325 [.ref 89, .int x1, .int x2, .null, .int x4, .int x5, .null] μ Q)))))) : wm_Wp 0 267 305 [.ref 89, .int x1, .int x2, .null, .int x4, .int x5, .null] μ Q := wm_vc mo_267 (rt := none) (by decide +kernel) mc_267 484 h
-- WindBoatModel.worksOut(II)V, the place 325
set_option maxRecDepth 100000 in
set_option maxHeartbeats 8000000 in
theorem f_267_325 (x1 : Int32) (x2 : Int32) (x4 : Int32) (x5 : Int32) (μ : wm_M) (Q : Option Value → wm_M → Prop) (h : (vp_in x5 3 ∧ (vp_in x5 3 ∧ wm_OkI 0 188 [.ref 89, .int (4 : Int32)] μ (fun r2 μ1 => (((μ.1 103 (x5).toNatClampNeg) ≤ r2 → wm_OkI 0 188 [.ref 89, .int (4 : Int32)] μ1 (fun r4 μ3 => wm_OkV 0 252 [.ref 89, .int x2, .int (μ.1 102 (x5).toNatClampNeg), .int r4] μ3 (fun μ5 => wm_Wp 0 267 367 [.ref 89, .int x1, .int x2, .null, .int x4, .int x5, .null] μ5 Q))) ∧ (¬ (μ.1 103 (x5).toNatClampNeg) ≤ r2 → (vp_in x5 3 ∧ wm_OkV 0 252 [.ref 89, .int x2, .int (μ.1 102 (x5).toNatClampNeg), .int (μ1.1 103 (x5).toNatClampNeg)] μ1 (fun μ6 => wm_Wp 0 267 367 [.ref 89, .int x1, .int x2, .null, .int x4, .int x5, .null] μ6 Q)))))))) : wm_Wp 0 267 325 [.ref 89, .int x1, .int x2, .null, .int x4, .int x5, .null] μ Q := wm_vc mo_267 (rt := none) (by decide +kernel) mc_267 484 h
-- WindBoatModel.worksOut(II)V, the place 367
set_option maxRecDepth 100000 in
set_option maxHeartbeats 8000000 in
theorem f_267_367 (x1 : Int32) (x2 : Int32) (x4 : Int32) (x5 : Int32) (μ : wm_M) (Q : Option Value → wm_M → Prop) (h : wm_OkI 0 188 [.ref 89, .int (5 : Int32)] μ (fun r2 μ1 => wm_OkI 0 254 [.ref 89, .int r2] μ1 (fun r4 μ3 => wm_Wp 0 267 378 [.ref 89, .int x1, .int x2, .null, .int x4, .int x5, .int r4] μ3 Q))) : wm_Wp 0 267 367 [.ref 89, .int x1, .int x2, .null, .int x4, .int x5, .null] μ Q := wm_vc mo_267 (rt := none) (by decide +kernel) mc_267 484 h
-- WindBoatModel.worksOut(II)V, the place 378
set_option maxRecDepth 100000 in
set_option maxHeartbeats 8000000 in
theorem f_267_378 (x1 : Int32) (x2 : Int32) (x4 : Int32) (x5 : Int32) (x6 : Int32) (μ : wm_M) (Q : Option Value → wm_M → Prop) (h : ((x6 = (-1 : Int32) → (vp_in ((((9 : Int32) * x1) + ((3 : Int32) * x4)) + x5) 54 ∧ wm_Wp 0 267 414 [.ref 89, .int x1, .int x2, .null, .int x4, .int x5, .null] (wm_si μ 98 (((((9 : Int32) * x1) + ((3 : Int32) * x4)) + x5)).toNatClampNeg (999 : Int32)) Q)) ∧ (¬ x6 = (-1 : Int32) → (vp_in x6 864 ∧ (vp_in ((((9 : Int32) * x1) + ((3 : Int32) * x4)) + x5) 54 ∧ wm_Wp 0 267 414 [.ref 89, .int x1, .int x2, .null, .int x4, .int x5, .null] (wm_si μ 98 (((((9 : Int32) * x1) + ((3 : Int32) * x4)) + x5)).toNatClampNeg (μ.1 96 (x6).toNatClampNeg)) Q))))) : wm_Wp 0 267 378 [.ref 89, .int x1, .int x2, .null, .int x4, .int x5, .int x6] μ Q := wm_vc mo_267 (rt := none) (by decide +kernel) mc_267 484 h
-- WindBoatModel.worksOut(II)V, the place 414
set_option maxRecDepth 100000 in
set_option maxHeartbeats 8000000 in
theorem f_267_414 (x1 : Int32) (x2 : Int32) (x4 : Int32) (x5 : Int32) (μ : wm_M) (Q : Option Value → wm_M → Prop) (h : wm_Wp 0 267 305 [.ref 89, .int x1, .int x2, .null, .int x4, .int (x5 + (1 : Int32)), .null] μ Q) : wm_Wp 0 267 414 [.ref 89, .int x1, .int x2, .null, .int x4, .int x5, .null] μ Q := wm_vc mo_267 (rt := none) (by decide +kernel) mc_267 484 h
-- WindBoatModel.worksOut(II)V, the place 420
set_option maxRecDepth 100000 in
set_option maxHeartbeats 8000000 in
theorem f_267_420 (x1 : Int32) (x2 : Int32) (x4 : Int32) (μ : wm_M) (Q : Option Value → wm_M → Prop) (h : wm_Wp 0 267 134 [.ref 89, .int x1, .int x2, .null, .int (x4 + (1 : Int32)), .null, .null] μ Q) : wm_Wp 0 267 420 [.ref 89, .int x1, .int x2, .null, .int x4, .null, .null] μ Q := wm_vc mo_267 (rt := none) (by decide +kernel) mc_267 484 h
-- WindBoatModel.worksOut(II)V, the place 426
set_option maxRecDepth 100000 in
set_option maxHeartbeats 8000000 in
theorem f_267_426 (μ : wm_M) (Q : Option Value → wm_M → Prop) (h : Q none μ) : wm_Wp 0 267 426 [.null, .null, .null, .null, .null, .null, .null] μ Q := wm_vc mo_267 (rt := none) (by decide +kernel) mc_267 484 h
-- WindBoatModel.worksAll()V
set_option maxRecDepth 100000 in
set_option maxHeartbeats 8000000 in
theorem f_268 (μ : wm_M) (Q : Option Value → wm_M → Prop) (h : wm_OkI 0 188 [.ref 89, .int (10 : Int32)] μ (fun r2 μ1 => wm_OkV 0 246 [.ref 89, .int r2] μ1 (fun μ3 => wm_Wp 0 268 10 [.ref 89, .null, .null] μ3 Q))) : wm_Ok 0 268 [.ref 89] μ Q := wm_ent (nL := 3) (l := [.ref 89, .null, .null]) (by decide +kernel) (by decide +kernel) (by decide +kernel) rfl rfl (wm_vc mo_268 (rt := none) (by decide +kernel) mc_268 68 h)
-- WindBoatModel.worksAll()V, the place 10
set_option maxRecDepth 100000 in
set_option maxHeartbeats 8000000 in
theorem f_268_10 (μ : wm_M) (Q : Option Value → wm_M → Prop) (h : wm_OkI 0 222 [.ref 89] μ (fun r2 μ1 => wm_Wp 0 268 15 [.ref 89, .int r2, .null] μ1 Q)) : wm_Wp 0 268 10 [.ref 89, .null, .null] μ Q := wm_vc mo_268 (rt := none) (by decide +kernel) mc_268 68 h
-- WindBoatModel.worksAll()V, the place 15
set_option maxRecDepth 100000 in
set_option maxHeartbeats 8000000 in
theorem f_268_15 (x1 : Int32) (μ : wm_M) (Q : Option Value → wm_M → Prop) (h : wm_Wp 0 268 17 [.ref 89, .int x1, .int (0 : Int32)] μ Q) : wm_Wp 0 268 15 [.ref 89, .int x1, .null] μ Q := wm_vc mo_268 (rt := none) (by decide +kernel) mc_268 68 h
-- WindBoatModel.worksAll()V, the place 17
set_option maxRecDepth 100000 in
set_option maxHeartbeats 8000000 in
theorem f_268_17 (x1 : Int32) (x2 : Int32) (μ : wm_M) (Q : Option Value → wm_M → Prop) (h : (((6 : Int32) ≤ x2 → wm_Wp 0 268 43 [.null, .null, .null] μ Q) ∧ (¬ (6 : Int32) ≤ x2 → wm_OkI 0 266 [.ref 89, .int x2] μ (fun r2 μ1 => ((r2 = (0 : Int32) → wm_Wp 0 268 37 [.ref 89, .int x1, .int x2] μ1 Q) ∧ (¬ r2 = (0 : Int32) → wm_Wp 0 268 31 [.ref 89, .int x1, .int x2] μ1 Q)))))) : wm_Wp 0 268 17 [.ref 89, .int x1, .int x2] μ Q := wm_vc mo_268 (rt := none) (by decide +kernel) mc_268 68 h
-- WindBoatModel.worksAll()V, the place 31
set_option maxRecDepth 100000 in
set_option maxHeartbeats 8000000 in
theorem f_268_31 (x1 : Int32) (x2 : Int32) (μ : wm_M) (Q : Option Value → wm_M → Prop) (h : wm_OkV 0 267 [.ref 89, .int x2, .int x1] μ (fun μ1 => wm_Wp 0 268 37 [.ref 89, .int x1, .int x2] μ1 Q)) : wm_Wp 0 268 31 [.ref 89, .int x1, .int x2] μ Q := wm_vc mo_268 (rt := none) (by decide +kernel) mc_268 68 h
-- WindBoatModel.worksAll()V, the place 37
set_option maxRecDepth 100000 in
set_option maxHeartbeats 8000000 in
theorem f_268_37 (x1 : Int32) (x2 : Int32) (μ : wm_M) (Q : Option Value → wm_M → Prop) (h : wm_Wp 0 268 17 [.ref 89, .int x1, .int (x2 + (1 : Int32))] μ Q) : wm_Wp 0 268 37 [.ref 89, .int x1, .int x2] μ Q := wm_vc mo_268 (rt := none) (by decide +kernel) mc_268 68 h
-- WindBoatModel.worksAll()V, the place 43
set_option maxRecDepth 100000 in
set_option maxHeartbeats 8000000 in
theorem f_268_43 (μ : wm_M) (Q : Option Value → wm_M → Prop) (h : Q none μ) : wm_Wp 0 268 43 [.null, .null, .null] μ Q := wm_vc mo_268 (rt := none) (by decide +kernel) mc_268 68 h
-- WindBoatModel.comes(II)I
set_option maxRecDepth 100000 in
set_option maxHeartbeats 8000000 in
theorem f_269 (a1 : Int32) (a2 : Int32) (μ : wm_M) (Q : Option Value → wm_M → Prop) (h : wm_OkI 0 188 [.ref 89, .int (6 : Int32)] μ (fun r2 μ1 => ((r2 = (0 : Int32) → wm_Wp 0 269 9 [.ref 89, .null, .null] μ1 Q) ∧ (¬ r2 = (0 : Int32) → wm_Wp 0 269 16 [.ref 89, .int a1, .int a2] μ1 Q)))) : wm_Ok 0 269 [.ref 89, .int a1, .int a2] μ Q := wm_ent (nL := 3) (l := [.ref 89, .int a1, .int a2]) (by decide +kernel) (by decide +kernel) (by decide +kernel) rfl rfl (wm_vc mo_269 (rt := some .int) (by decide +kernel) mc_269 128 h)
-- WindBoatModel.comes(II)I, the place 9
set_option maxRecDepth 100000 in
set_option maxHeartbeats 8000000 in
theorem f_269_9 (μ : wm_M) (Q : Option Value → wm_M → Prop) (h : wm_OkI 0 185 [.ref 89, .int (-2 : Int32)] μ (fun r2 μ1 => Q (some (.int r2)) μ1)) : wm_Wp 0 269 9 [.ref 89, .null, .null] μ Q := wm_vc mo_269 (rt := some .int) (by decide +kernel) mc_269 128 h
-- WindBoatModel.comes(II)I, the place 16
set_option maxRecDepth 100000 in
set_option maxHeartbeats 8000000 in
theorem f_269_16 (x1 : Int32) (x2 : Int32) (μ : wm_M) (Q : Option Value → wm_M → Prop) (h : ((x1 < (0 : Int32) → wm_Wp 0 269 43 [.ref 89, .null, .null] μ Q) ∧ (¬ x1 < (0 : Int32) → (¬ (10 : Int32) = 0 ∧ (((2 : Int32) < (x1 / (10 : Int32)) → wm_Wp 0 269 43 [.ref 89, .null, .null] μ Q) ∧ (¬ (2 : Int32) < (x1 / (10 : Int32)) → (¬ (10 : Int32) = 0 ∧ (((2 : Int32) < (x1 - x1 / (10 : Int32) * (10 : Int32)) → wm_Wp 0 269 43 [.ref 89, .null, .null] μ Q) ∧ (¬ (2 : Int32) < (x1 - x1 / (10 : Int32) * (10 : Int32)) → wm_Wp 0 269 36 [.ref 89, .int x1, .int x2] μ Q))))))))) : wm_Wp 0 269 16 [.ref 89, .int x1, .int x2] μ Q := wm_vc mo_269 (rt := some .int) (by decide +kernel) mc_269 128 h
-- WindBoatModel.comes(II)I, the place 36
set_option maxRecDepth 100000 in
set_option maxHeartbeats 8000000 in
theorem f_269_36 (x1 : Int32) (x2 : Int32) (μ : wm_M) (Q : Option Value → wm_M → Prop) (h : wm_OkI 0 262 [.int x2] μ (fun r2 μ1 => ((r2 = (0 : Int32) → wm_Wp 0 269 43 [.ref 89, .null, .null] μ1 Q) ∧ (¬ r2 = (0 : Int32) → wm_Wp 0 269 50 [.ref 89, .int x1, .int x2] μ1 Q)))) : wm_Wp 0 269 36 [.ref 89, .int x1, .int x2] μ Q := wm_vc mo_269 (rt := some .int) (by decide +kernel) mc_269 128 h
-- WindBoatModel.comes(II)I, the place 43
set_option maxRecDepth 100000 in
set_option maxHeartbeats 8000000 in
theorem f_269_43 (μ : wm_M) (Q : Option Value → wm_M → Prop) (h : wm_OkI 0 185 [.ref 89, .int (-3 : Int32)] μ (fun r2 μ1 => Q (some (.int r2)) μ1)) : wm_Wp 0 269 43 [.ref 89, .null, .null] μ Q := wm_vc mo_269 (rt := some .int) (by decide +kernel) mc_269 128 h
-- WindBoatModel.comes(II)I, the place 50
set_option maxRecDepth 100000 in
set_option maxHeartbeats 8000000 in
theorem f_269_50 (x1 : Int32) (x2 : Int32) (μ : wm_M) (Q : Option Value → wm_M → Prop) (h : wm_OkI 0 188 [.ref 89, .int (10 : Int32)] μ (fun r2 μ1 => wm_OkV 0 246 [.ref 89, .int r2] μ1 (fun μ3 => wm_Wp 0 269 60 [.ref 89, .int x1, .int x2] μ3 Q))) : wm_Wp 0 269 50 [.ref 89, .int x1, .int x2] μ Q := wm_vc mo_269 (rt := some .int) (by decide +kernel) mc_269 128 h
-- WindBoatModel.comes(II)I, the place 60
set_option maxRecDepth 100000 in
set_option maxHeartbeats 8000000 in
theorem f_269_60 (x1 : Int32) (x2 : Int32) (μ : wm_M) (Q : Option Value → wm_M → Prop) (h : wm_OkI 0 222 [.ref 89] μ (fun r2 μ1 => wm_OkV 0 267 [.ref 89, .int x2, .int r2] μ1 (fun μ3 => wm_Wp 0 269 69 [.ref 89, .int x1, .int x2] μ3 Q))) : wm_Wp 0 269 60 [.ref 89, .int x1, .int x2] μ Q := wm_vc mo_269 (rt := some .int) (by decide +kernel) mc_269 128 h
-- WindBoatModel.comes(II)I, the place 69
set_option maxRecDepth 100000 in
set_option maxHeartbeats 8000000 in
theorem f_269_69 (x1 : Int32) (x2 : Int32) (μ : wm_M) (Q : Option Value → wm_M → Prop) (h : (¬ (10 : Int32) = 0 ∧ (¬ (10 : Int32) = 0 ∧ (vp_in ((((9 : Int32) * x2) + ((3 : Int32) * (x1 / (10 : Int32)))) + (x1 - x1 / (10 : Int32) * (10 : Int32))) 54 ∧ Q (some (.int (μ.1 98 (((((9 : Int32) * x2) + ((3 : Int32) * (x1 / (10 : Int32)))) + (x1 - x1 / (10 : Int32) * (10 : Int32)))).toNatClampNeg))) μ)))) : wm_Wp 0 269 69 [.ref 89, .int x1, .int x2] μ Q := wm_vc mo_269 (rt := some .int) (by decide +kernel) mc_269 128 h
-- WindBoatModel.sides(II)I
set_option maxRecDepth 100000 in
set_option maxHeartbeats 8000000 in
theorem f_270 (a0 : Int32) (a1 : Int32) (μ : wm_M) (Q : Option Value → wm_M → Prop) (h : wm_OkI 0 248 [.int a0, .int a1] μ (fun r2 μ1 => Q (some (.int r2)) μ1)) : wm_Ok 0 270 [.int a0, .int a1] μ Q := wm_ent (nL := 2) (l := [.int a0, .int a1]) (by decide +kernel) (by decide +kernel) (by decide +kernel) rfl rfl (wm_vc mo_270 (rt := some .int) (by decide +kernel) mc_270 28 h)
-- WindBoatModel.weightOf(I)I
set_option maxRecDepth 100000 in
set_option maxHeartbeats 8000000 in
theorem f_271 (a1 : Int32) (μ : wm_M) (Q : Option Value → wm_M → Prop) (h : (¬ (2 : Int32) = 0 ∧ wm_Wp 0 271 8 [.ref 89, .int a1, .int (1 : Int32), .int ((a1 / (2 : Int32)) * (2 : Int32)), .null, .null, .null, .null] μ Q)) : wm_Ok 0 271 [.ref 89, .int a1] μ Q := wm_ent (nL := 8) (l := [.ref 89, .int a1, .null, .null, .null, .null, .null, .null]) (by decide +kernel) (by decide +kernel) (by decide +kernel) rfl rfl (wm_vc mo_271 (rt := some .int) (by decide +kernel) mc_271 208 h)
-- WindBoatModel.weightOf(I)I, the place 8
set_option maxRecDepth 100000 in
set_option maxHeartbeats 8000000 in
theorem f_271_8 (x1 : Int32) (x2 : Int32) (x3 : Int32) (μ : wm_M) (Q : Option Value → wm_M → Prop) (h : (¬ (2 : Int32) = 0 ∧ (((((x1 / (2 : Int32)) * (2 : Int32)) + (2 : Int32)) ≤ x3 → wm_Wp 0 271 161 [.null, .null, .int x2, .null, .null, .null, .null, .null] μ Q) ∧ (¬ (((x1 / (2 : Int32)) * (2 : Int32)) + (2 : Int32)) ≤ x3 → wm_Wp 0 271 22 [.ref 89, .int x1, .int x2, .int x3, .int (0 : Int32), .null, .null, .null] μ Q)))) : wm_Wp 0 271 8 [.ref 89, .int x1, .int x2, .int x3, .null, .null, .null, .null] μ Q := wm_vc mo_271 (rt := some .int) (by decide +kernel) mc_271 208 h
-- WindBoatModel.weightOf(I)I, the place 22
set_option maxRecDepth 100000 in
set_option maxHeartbeats 8000000 in
theorem f_271_22 (x1 : Int32) (x2 : Int32) (x3 : Int32) (x4 : Int32) (μ : wm_M) (Q : Option Value → wm_M → Prop) (h : (((12 : Int32) ≤ x4 → wm_Wp 0 271 155 [.ref 89, .int x1, .int x2, .int x3, .null, .null, .null, .null] μ Q) ∧ (¬ (12 : Int32) ≤ x4 → wm_Wp 0 271 45 [.ref 89, .int x1, .int x2, .int x3, .int x4, .int (((12 : Int32) * x3) + x4), .int ((72 : Int32) + x4), .null] μ Q))) : wm_Wp 0 271 22 [.ref 89, .int x1, .int x2, .int x3, .int x4, .null, .null, .null] μ Q := wm_vc mo_271 (rt := some .int) (by decide +kernel) mc_271 208 h
-- WindBoatModel.weightOf(I)I, the place 45
set_option maxRecDepth 100000 in
set_option maxHeartbeats 8000000 in
theorem f_271_45 (x1 : Int32) (x2 : Int32) (x3 : Int32) (x4 : Int32) (x5 : Int32) (x6 : Int32) (μ : wm_M) (Q : Option Value → wm_M → Prop) (h : (vp_in ((240 : Int32) + x5) 2060 ∧ (((μ.1 91 (((240 : Int32) + x5)).toNatClampNeg) = (0 : Int32) → wm_Wp 0 271 149 [.ref 89, .int x1, .int x2, .int x3, .int x4, .null, .null, .null] μ Q) ∧ (¬ (μ.1 91 (((240 : Int32) + x5)).toNatClampNeg) = (0 : Int32) → (vp_in ((240 : Int32) + x6) 2060 ∧ (((μ.1 91 (((240 : Int32) + x6)).toNatClampNeg) = (0 : Int32) → wm_Wp 0 271 73 [.ref 89, .int x1, .int x2, .int x3, .int x4, .null, .null, .null] μ Q) ∧ (¬ (μ.1 91 (((240 : Int32) + x6)).toNatClampNeg) = (0 : Int32) → wm_Wp 0 271 76 [.ref 89, .int x1, .int x2, .int x3, .int x4, .int x5, .int x6, .null] μ Q))))))) : wm_Wp 0 271 45 [.ref 89, .int x1, .int x2, .int x3, .int x4, .int x5, .int x6, .null] μ Q := wm_vc mo_271 (rt := some .int) (by decide +kernel) mc_271 208 h
-- WindBoatModel.weightOf(I)I, the place 73
set_option maxRecDepth 100000 in
set_option maxHeartbeats 8000000 in
theorem f_271_73 (x1 : Int32) (x2 : Int32) (x3 : Int32) (x4 : Int32) (μ : wm_M) (Q : Option Value → wm_M → Prop) (h : wm_Wp 0 271 149 [.ref 89, .int x1, .int x2, .int x3, .int x4, .null, .null, .null] μ Q) : wm_Wp 0 271 73 [.ref 89, .int x1, .int x2, .int x3, .int x4, .null, .null, .null] μ Q := wm_vc mo_271 (rt := some .int) (by decide +kernel) mc_271 208 h
-- WindBoatModel.weightOf(I)I, the place 76
set_option maxRecDepth 100000 in
set_option maxHeartbeats 8000000 in
theorem f_271_76 (x1 : Int32) (x2 : Int32) (x3 : Int32) (x4 : Int32) (x5 : Int32) (x6 : Int32) (μ : wm_M) (Q : Option Value → wm_M → Prop) (h : (vp_in ((156 : Int32) + x5) 2060 ∧ (vp_in ((156 : Int32) + x6) 2060 ∧ wm_Wp 0 271 101 [.ref 89, .int x1, .int x2, .int x3, .int x4, .int x5, .int x6, .int ((μ.1 91 (((156 : Int32) + x5)).toNatClampNeg) - (μ.1 91 (((156 : Int32) + x6)).toNatClampNeg))] μ Q))) : wm_Wp 0 271 76 [.ref 89, .int x1, .int x2, .int x3, .int x4, .int x5, .int x6, .null] μ Q := wm_vc mo_271 (rt := some .int) (by decide +kernel) mc_271 208 h
-- WindBoatModel.weightOf(I)I, the place 101
set_option maxRecDepth 100000 in
set_option maxHeartbeats 8000000 in
theorem f_271_101 (x1 : Int32) (x2 : Int32) (x3 : Int32) (x4 : Int32) (x5 : Int32) (x6 : Int32) (x7 : Int32) (μ : wm_M) (Q : Option Value → wm_M → Prop) (h : (vp_in ((72 : Int32) + x5) 2060 ∧ (vp_in ((72 : Int32) + x6) 2060 ∧ wm_OkI 0 270 [.int (μ.1 91 (((72 : Int32) + x5)).toNatClampNeg), .int (μ.1 91 (((72 : Int32) + x6)).toNatClampNeg)] μ (fun r2 μ1 => (((1 : Int32) < r2 → wm_Wp 0 271 149 [.ref 89, .int x1, .int (x2 + (0 : Int32)), .int x3, .int x4, .null, .null, .null] μ1 Q) ∧ (¬ (1 : Int32) < r2 → (((4 : Int32) < x7 → wm_Wp 0 271 149 [.ref 89, .int x1, .int (x2 + (0 : Int32)), .int x3, .int x4, .null, .null, .null] μ1 Q) ∧ (¬ (4 : Int32) < x7 → ((x7 < (-4 : Int32) → wm_Wp 0 271 149 [.ref 89, .int x1, .int (x2 + (0 : Int32)), .int x3, .int x4, .null, .null, .null] μ1 Q) ∧ (¬ x7 < (-4 : Int32) → wm_Wp 0 271 149 [.ref 89, .int x1, .int (x2 + (1 : Int32)), .int x3, .int x4, .null, .null, .null] μ1 Q)))))))))) : wm_Wp 0 271 101 [.ref 89, .int x1, .int x2, .int x3, .int x4, .int x5, .int x6, .int x7] μ Q := wm_vc mo_271 (rt := some .int) (by decide +kernel) mc_271 208 h
-- WindBoatModel.weightOf(I)I, the place 149
set_option maxRecDepth 100000 in
set_option maxHeartbeats 8000000 in
theorem f_271_149 (x1 : Int32) (x2 : Int32) (x3 : Int32) (x4 : Int32) (μ : wm_M) (Q : Option Value → wm_M → Prop) (h : wm_Wp 0 271 22 [.ref 89, .int x1, .int x2, .int x3, .int (x4 + (1 : Int32)), .null, .null, .null] μ Q) : wm_Wp 0 271 149 [.ref 89, .int x1, .int x2, .int x3, .int x4, .null, .null, .null] μ Q := wm_vc mo_271 (rt := some .int) (by decide +kernel) mc_271 208 h
-- WindBoatModel.weightOf(I)I, the place 155
set_option maxRecDepth 100000 in
set_option maxHeartbeats 8000000 in
theorem f_271_155 (x1 : Int32) (x2 : Int32) (x3 : Int32) (μ : wm_M) (Q : Option Value → wm_M → Prop) (h : wm_Wp 0 271 8 [.ref 89, .int x1, .int x2, .int (x3 + (1 : Int32)), .null, .null, .null, .null] μ Q) : wm_Wp 0 271 155 [.ref 89, .int x1, .int x2, .int x3, .null, .null, .null, .null] μ Q := wm_vc mo_271 (rt := some .int) (by decide +kernel) mc_271 208 h
-- WindBoatModel.weightOf(I)I, the place 161
set_option maxRecDepth 100000 in
set_option maxHeartbeats 8000000 in
theorem f_271_161 (x2 : Int32) (μ : wm_M) (Q : Option Value → wm_M → Prop) (h : Q (some (.int x2)) μ) : wm_Wp 0 271 161 [.null, .null, .int x2, .null, .null, .null, .null, .null] μ Q := wm_vc mo_271 (rt := some .int) (by decide +kernel) mc_271 208 h
-- WindBoatModel.weight(I)I
set_option maxRecDepth 100000 in
set_option maxHeartbeats 8000000 in
theorem f_272 (a1 : Int32) (μ : wm_M) (Q : Option Value → wm_M → Prop) (h : wm_OkI 0 262 [.int a1] μ (fun r2 μ1 => ((r2 = (0 : Int32) → wm_Wp 0 272 15 [.ref 89, .null] μ1 Q) ∧ (¬ r2 = (0 : Int32) → wm_Wp 0 272 7 [.ref 89, .int a1] μ1 Q)))) : wm_Ok 0 272 [.ref 89, .int a1] μ Q := wm_ent (nL := 2) (l := [.ref 89, .int a1]) (by decide +kernel) (by decide +kernel) (by decide +kernel) rfl rfl (wm_vc mo_272 (rt := some .int) (by decide +kernel) mc_272 42 h)
-- WindBoatModel.weight(I)I, the place 7
set_option maxRecDepth 100000 in
set_option maxHeartbeats 8000000 in
theorem f_272_7 (x1 : Int32) (μ : wm_M) (Q : Option Value → wm_M → Prop) (h : wm_OkI 0 271 [.ref 89, .int x1] μ (fun r2 μ1 => Q (some (.int r2)) μ1)) : wm_Wp 0 272 7 [.ref 89, .int x1] μ Q := wm_vc mo_272 (rt := some .int) (by decide +kernel) mc_272 42 h
-- WindBoatModel.weight(I)I, the place 15
set_option maxRecDepth 100000 in
set_option maxHeartbeats 8000000 in
theorem f_272_15 (μ : wm_M) (Q : Option Value → wm_M → Prop) (h : wm_OkI 0 185 [.ref 89, .int (-3 : Int32)] μ (fun r2 μ1 => Q (some (.int r2)) μ1)) : wm_Wp 0 272 15 [.ref 89, .null] μ Q := wm_vc mo_272 (rt := some .int) (by decide +kernel) mc_272 42 h
-- WindBoatModel.groupOf(I)I
set_option maxRecDepth 100000 in
set_option maxHeartbeats 8000000 in
theorem f_273 (a1 : Int32) (μ : wm_M) (Q : Option Value → wm_M → Prop) (h : (((μ.1 89 37) = (0 : Int32) → wm_Wp 0 273 11 [.ref 89, .int a1] μ Q) ∧ (¬ (μ.1 89 37) = (0 : Int32) → Q (some (.int (0 : Int32))) μ))) : wm_Ok 0 273 [.ref 89, .int a1] μ Q := wm_ent (nL := 2) (l := [.ref 89, .int a1]) (by decide +kernel) (by decide +kernel) (by decide +kernel) rfl rfl (wm_vc mo_273 (rt := some .int) (by decide +kernel) mc_273 44 h)
-- WindBoatModel.groupOf(I)I, the place 11
set_option maxRecDepth 100000 in
set_option maxHeartbeats 8000000 in
theorem f_273_11 (x1 : Int32) (μ : wm_M) (Q : Option Value → wm_M → Prop) (h : (vp_in ((1995 : Int32) + x1) 2060 ∧ Q (some (.int (μ.1 91 (((1995 : Int32) + x1)).toNatClampNeg))) μ)) : wm_Wp 0 273 11 [.ref 89, .int x1] μ Q := wm_vc mo_273 (rt := some .int) (by decide +kernel) mc_273 44 h
-- WindBoatModel.aimOf(IIII)J
set_option maxRecDepth 100000 in
set_option maxHeartbeats 8000000 in
theorem f_274 (a1 : Int32) (a2 : Int32) (a3 : Int32) (a4 : Int32) (μ : wm_M) (Q : Option Value → wm_M → Prop) (h : wm_Wp 0 274 9 [.ref 89, .int a1, .int a2, .int a3, .int a4, .long (0 : Int64), .null, .int (0 : Int32), .int (0 : Int32), .null, .null, .null] μ Q) : wm_Ok 0 274 [.ref 89, .int a1, .int a2, .int a3, .int a4] μ Q := wm_ent (nL := 12) (l := [.ref 89, .int a1, .int a2, .int a3, .int a4, .null, .null, .null, .null, .null, .null, .null]) (by decide +kernel) (by decide +kernel) (by decide +kernel) rfl rfl (wm_vc mo_274 (rt := some .long) (by decide +kernel) mc_274 198 h)
-- WindBoatModel.aimOf(IIII)J, the place 9
set_option maxRecDepth 100000 in
set_option maxHeartbeats 8000000 in
theorem f_274_9 (x1 : Int32) (x2 : Int32) (x3 : Int32) (x4 : Int32) (x5 : Int64) (x7 : Int32) (x8 : Int32) (μ : wm_M) (Q : Option Value → wm_M → Prop) (h : (((6 : Int32) ≤ x8 → wm_Wp 0 274 160 [.null, .null, .null, .null, .null, .long x5, .null, .null, .null, .null, .null, .null] μ Q) ∧ (¬ (6 : Int32) ≤ x8 → wm_OkI 0 266 [.ref 89, .int x8] μ (fun r2 μ1 => ((r2 = (0 : Int32) → wm_Wp 0 274 154 [.ref 89, .int x1, .int x2, .int x3, .int x4, .long x5, .null, .int x7, .int x8, .null, .null, .null] μ1 Q) ∧ (¬ r2 = (0 : Int32) → wm_Wp 0 274 25 [.ref 89, .int x1, .int x2, .int x3, .int x4, .long x5, .null, .int x7, .int x8, .null, .null, .null] μ1 Q)))))) : wm_Wp 0 274 9 [.ref 89, .int x1, .int x2, .int x3, .int x4, .long x5, .null, .int x7, .int x8, .null, .null, .null] μ Q := wm_vc mo_274 (rt := some .long) (by decide +kernel) mc_274 198 h
-- WindBoatModel.aimOf(IIII)J, the place 25
set_option maxRecDepth 100000 in
set_option maxHeartbeats 8000000 in
theorem f_274_25 (x1 : Int32) (x2 : Int32) (x3 : Int32) (x4 : Int32) (x5 : Int64) (x7 : Int32) (x8 : Int32) (μ : wm_M) (Q : Option Value → wm_M → Prop) (h : ((x3 = (-1 : Int32) → wm_Wp 0 274 43 [.ref 89, .int x1, .int x2, .int x3, .int x4, .long x5, .null, .int x7, .int x8, .null, .null, .null] μ Q) ∧ (¬ x3 = (-1 : Int32) → wm_OkI 0 273 [.ref 89, .int x8] μ (fun r2 μ1 => ((r2 = x3 → wm_Wp 0 274 43 [.ref 89, .int x1, .int x2, .int x3, .int x4, .long x5, .null, .int x7, .int x8, .null, .null, .null] μ1 Q) ∧ (¬ r2 = x3 → wm_Wp 0 274 40 [.ref 89, .int x1, .int x2, .int x3, .int x4, .long x5, .null, .int x7, .int x8, .null, .null, .null] μ1 Q)))))) : wm_Wp 0 274 25 [.ref 89, .int x1, .int x2, .int x3, .int x4, .long x5, .null, .int x7, .int x8, .null, .null, .null] μ Q := wm_vc mo_274 (rt := some .long) (by decide +kernel) mc_274 198 h
-- WindBoatModel.aimOf(IIII)J, the place 40
set_option maxRecDepth 100000 in
set_option maxHeartbeats 8000000 in
theorem f_274_40 (x1 : Int32) (x2 : Int32) (x3 : Int32) (x4 : Int32) (x5 : Int64) (x7 : Int32) (x8 : Int32) (μ : wm_M) (Q : Option Value → wm_M → Prop) (h : wm_Wp 0 274 154 [.ref 89, .int x1, .int x2, .int x3, .int x4, .long x5, .null, .int x7, .int x8, .null, .null, .null] μ Q) : wm_Wp 0 274 40 [.ref 89, .int x1, .int x2, .int x3, .int x4, .long x5, .null, .int x7, .int x8, .null, .null, .null] μ Q := wm_vc mo_274 (rt := some .long) (by decide +kernel) mc_274 198 h
-- WindBoatModel.aimOf(IIII)J, the place 43
set_option maxRecDepth 100000 in
set_option maxHeartbeats 8000000 in
theorem f_274_43 (x1 : Int32) (x2 : Int32) (x3 : Int32) (x4 : Int32) (x5 : Int64) (x7 : Int32) (x8 : Int32) (μ : wm_M) (Q : Option Value → wm_M → Prop) (h : ((x3 = (-1 : Int32) → wm_OkI 0 273 [.ref 89, .int x8] μ (fun r2 μ1 => (vp_in r2 3 ∧ (vp_in ((((9 : Int32) * x8) + ((3 : Int32) * x2)) + (μ1.1 105 (r2).toNatClampNeg)) 54 ∧ ((x1 = (0 : Int32) → (vp_in x8 6 ∧ wm_Wp 0 274 102 [.ref 89, .int x1, .int x2, .int x3, .int x4, .long (x5 + (((μ1.1 104 (x8).toNatClampNeg)).toInt64 * ((μ1.1 98 (((((9 : Int32) * x8) + ((3 : Int32) * x2)) + (μ1.1 105 (r2).toNatClampNeg))).toNatClampNeg)).toInt64)), .null, .null, .int x8, .null, .null, .null] μ1 Q)) ∧ (¬ x1 = (0 : Int32) → wm_Wp 0 274 105 [.ref 89, .int x1, .int x2, .int x3, .int x4, .long x5, .null, .int x7, .int x8, .int (μ1.1 98 (((((9 : Int32) * x8) + ((3 : Int32) * x2)) + (μ1.1 105 (r2).toNatClampNeg))).toNatClampNeg), .null, .null] μ1 Q)))))) ∧ (¬ x3 = (-1 : Int32) → (vp_in ((((9 : Int32) * x8) + ((3 : Int32) * x2)) + x4) 54 ∧ ((x1 = (0 : Int32) → (vp_in x8 6 ∧ wm_Wp 0 274 102 [.ref 89, .int x1, .int x2, .int x3, .int x4, .long (x5 + (((μ.1 104 (x8).toNatClampNeg)).toInt64 * ((μ.1 98 (((((9 : Int32) * x8) + ((3 : Int32) * x2)) + x4)).toNatClampNeg)).toInt64)), .null, .null, .int x8, .null, .null, .null] μ Q)) ∧ (¬ x1 = (0 : Int32) → wm_Wp 0 274 105 [.ref 89, .int x1, .int x2, .int x3, .int x4, .long x5, .null, .int x7, .int x8, .int (μ.1 98 (((((9 : Int32) * x8) + ((3 : Int32) * x2)) + x4)).toNatClampNeg), .null, .null] μ Q)))))) : wm_Wp 0 274 43 [.ref 89, .int x1, .int x2, .int x3, .int x4, .long x5, .null, .int x7, .int x8, .null, .null, .null] μ Q := wm_vc mo_274 (rt := some .long) (by decide +kernel) mc_274 198 h
-- WindBoatModel.aimOf(IIII)J, the place 102
set_option maxRecDepth 100000 in
set_option maxHeartbeats 8000000 in
theorem f_274_102 (x1 : Int32) (x2 : Int32) (x3 : Int32) (x4 : Int32) (x5 : Int64) (x8 : Int32) (μ : wm_M) (Q : Option Value → wm_M → Prop) (h : wm_Wp 0 274 151 [.ref 89, .int x1, .int x2, .int x3, .int x4, .long x5, .null, .null, .int x8, .null, .null, .null] μ Q) : wm_Wp 0 274 102 [.ref 89, .int x1, .int x2, .int x3, .int x4, .long x5, .null, .null, .int x8, .null, .null, .null] μ Q := wm_vc mo_274 (rt := some .long) (by decide +kernel) mc_274 198 h
-- WindBoatModel.aimOf(IIII)J, the place 105
set_option maxRecDepth 100000 in
set_option maxHeartbeats 8000000 in
theorem f_274_105 (x1 : Int32) (x2 : Int32) (x3 : Int32) (x4 : Int32) (x5 : Int64) (x7 : Int32) (x8 : Int32) (x9 : Int32) (μ : wm_M) (Q : Option Value → wm_M → Prop) (h : ((x1 = (1 : Int32) → ((x7 = (0 : Int32) → wm_Wp 0 274 142 [.ref 89, .int x1, .int x2, .int x3, .int x4, .null, .null, .null, .int x8, .null, .long (x9).toInt64, .null] μ Q) ∧ (¬ x7 = (0 : Int32) → (((lg_cmp (x9).toInt64 x5) ≤ (0 : Int32) → wm_Wp 0 274 147 [.ref 89, .int x1, .int x2, .int x3, .int x4, .long x5, .null, .null, .int x8, .null, .null, .null] μ Q) ∧ (¬ (lg_cmp (x9).toInt64 x5) ≤ (0 : Int32) → wm_Wp 0 274 142 [.ref 89, .int x1, .int x2, .int x3, .int x4, .null, .null, .null, .int x8, .null, .long (x9).toInt64, .null] μ Q))))) ∧ (¬ x1 = (1 : Int32) → wm_Wp 0 274 116 [.ref 89, .int x1, .int x2, .int x3, .int x4, .long x5, .null, .int x7, .int x8, .int x9, .null, .null] μ Q))) : wm_Wp 0 274 105 [.ref 89, .int x1, .int x2, .int x3, .int x4, .long x5, .null, .int x7, .int x8, .int x9, .null, .null] μ Q := wm_vc mo_274 (rt := some .long) (by decide +kernel) mc_274 198 h
-- WindBoatModel.aimOf(IIII)J, the place 116
set_option maxRecDepth 100000 in
set_option maxHeartbeats 8000000 in
theorem f_274_116 (x1 : Int32) (x2 : Int32) (x3 : Int32) (x4 : Int32) (x5 : Int64) (x7 : Int32) (x8 : Int32) (x9 : Int32) (μ : wm_M) (Q : Option Value → wm_M → Prop) (h : (vp_in x8 6 ∧ ((x7 = (0 : Int32) → wm_Wp 0 274 142 [.ref 89, .int x1, .int x2, .int x3, .int x4, .null, .null, .null, .int x8, .null, .long ((x9 - (μ.1 99 (x8).toNatClampNeg))).toInt64, .null] μ Q) ∧ (¬ x7 = (0 : Int32) → (((lg_cmp ((x9 - (μ.1 99 (x8).toNatClampNeg))).toInt64 x5) ≤ (0 : Int32) → wm_Wp 0 274 147 [.ref 89, .int x1, .int x2, .int x3, .int x4, .long x5, .null, .null, .int x8, .null, .null, .null] μ Q) ∧ (¬ (lg_cmp ((x9 - (μ.1 99 (x8).toNatClampNeg))).toInt64 x5) ≤ (0 : Int32) → wm_Wp 0 274 142 [.ref 89, .int x1, .int x2, .int x3, .int x4, .null, .null, .null, .int x8, .null, .long ((x9 - (μ.1 99 (x8).toNatClampNeg))).toInt64, .null] μ Q)))))) : wm_Wp 0 274 116 [.ref 89, .int x1, .int x2, .int x3, .int x4, .long x5, .null, .int x7, .int x8, .int x9, .null, .null] μ Q := wm_vc mo_274 (rt := some .long) (by decide +kernel) mc_274 198 h
-- WindBoatModel.aimOf(IIII)J, the place 142
set_option maxRecDepth 100000 in
set_option maxHeartbeats 8000000 in
theorem f_274_142 (x1 : Int32) (x2 : Int32) (x3 : Int32) (x4 : Int32) (x8 : Int32) (x10 : Int64) (μ : wm_M) (Q : Option Value → wm_M → Prop) (h : wm_Wp 0 274 151 [.ref 89, .int x1, .int x2, .int x3, .int x4, .long x10, .null, .null, .int x8, .null, .null, .null] μ Q) : wm_Wp 0 274 142 [.ref 89, .int x1, .int x2, .int x3, .int x4, .null, .null, .null, .int x8, .null, .long x10, .null] μ Q := wm_vc mo_274 (rt := some .long) (by decide +kernel) mc_274 198 h
-- WindBoatModel.aimOf(IIII)J, the place 147
set_option maxRecDepth 100000 in
set_option maxHeartbeats 8000000 in
theorem f_274_147 (x1 : Int32) (x2 : Int32) (x3 : Int32) (x4 : Int32) (x5 : Int64) (x8 : Int32) (μ : wm_M) (Q : Option Value → wm_M → Prop) (h : wm_Wp 0 274 151 [.ref 89, .int x1, .int x2, .int x3, .int x4, .long x5, .null, .null, .int x8, .null, .null, .null] μ Q) : wm_Wp 0 274 147 [.ref 89, .int x1, .int x2, .int x3, .int x4, .long x5, .null, .null, .int x8, .null, .null, .null] μ Q := wm_vc mo_274 (rt := some .long) (by decide +kernel) mc_274 198 h
-- WindBoatModel.aimOf(IIII)J, the place 151
set_option maxRecDepth 100000 in
set_option maxHeartbeats 8000000 in
theorem f_274_151 (x1 : Int32) (x2 : Int32) (x3 : Int32) (x4 : Int32) (x5 : Int64) (x8 : Int32) (μ : wm_M) (Q : Option Value → wm_M → Prop) (h : wm_Wp 0 274 154 [.ref 89, .int x1, .int x2, .int x3, .int x4, .long x5, .null, .int (1 : Int32), .int x8, .null, .null, .null] μ Q) : wm_Wp 0 274 151 [.ref 89, .int x1, .int x2, .int x3, .int x4, .long x5, .null, .null, .int x8, .null, .null, .null] μ Q := wm_vc mo_274 (rt := some .long) (by decide +kernel) mc_274 198 h
-- WindBoatModel.aimOf(IIII)J, the place 154
set_option maxRecDepth 100000 in
set_option maxHeartbeats 8000000 in
theorem f_274_154 (x1 : Int32) (x2 : Int32) (x3 : Int32) (x4 : Int32) (x5 : Int64) (x7 : Int32) (x8 : Int32) (μ : wm_M) (Q : Option Value → wm_M → Prop) (h : wm_Wp 0 274 9 [.ref 89, .int x1, .int x2, .int x3, .int x4, .long x5, .null, .int x7, .int (x8 + (1 : Int32)), .null, .null, .null] μ Q) : wm_Wp 0 274 154 [.ref 89, .int x1, .int x2, .int x3, .int x4, .long x5, .null, .int x7, .int x8, .null, .null, .null] μ Q := wm_vc mo_274 (rt := some .long) (by decide +kernel) mc_274 198 h
-- WindBoatModel.aimOf(IIII)J, the place 160
set_option maxRecDepth 100000 in
set_option maxHeartbeats 8000000 in
theorem f_274_160 (x5 : Int64) (μ : wm_M) (Q : Option Value → wm_M → Prop) (h : Q (some (.long x5)) μ) : wm_Wp 0 274 160 [.null, .null, .null, .null, .null, .long x5, .null, .null, .null, .null, .null, .null] μ Q := wm_vc mo_274 (rt := some .long) (by decide +kernel) mc_274 198 h
