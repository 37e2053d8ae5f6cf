/-! ===== what each block of code asks (printed by wip/gen/genvc.py) ===== -/
-- WindBoatModel.stay(I)I
set_option maxRecDepth 100000 in
set_option maxHeartbeats 8000000 in
theorem f_294 (a1 : Int32) (μ : wm_M) (Q : Option Value → wm_M → Prop) (h : wm_OkI 0 188 [.ref 89, .int (6 : Int32)] μ (fun r2 μ1 => ((r2 = (0 : Int32) → wm_Wp 0 294 9 [.ref 89, .null] μ1 Q) ∧ (¬ r2 = (0 : Int32) → wm_Wp 0 294 16 [.ref 89, .int a1] μ1 Q)))) : wm_Ok 0 294 [.ref 89, .int a1] μ Q := wm_ent (nL := 2) (l := [.ref 89, .int a1]) (by decide +kernel) (by decide +kernel) (by decide +kernel) rfl rfl (wm_vc mo_294 (rt := some .int) (by decide +kernel) mc_294 102 h)
-- WindBoatModel.stay(I)I, the place 9
set_option maxRecDepth 100000 in
set_option maxHeartbeats 8000000 in
theorem f_294_9 (μ : wm_M) (Q : Option Value → wm_M → Prop) (h : wm_OkI 0 185 [.ref 89, .int (-2 : Int32)] μ (fun r2 μ1 => Q (some (.int r2)) μ1)) : wm_Wp 0 294 9 [.ref 89, .null] μ Q := wm_vc mo_294 (rt := some .int) (by decide +kernel) mc_294 102 h
-- WindBoatModel.stay(I)I, the place 16
set_option maxRecDepth 100000 in
set_option maxHeartbeats 8000000 in
theorem f_294_16 (x1 : Int32) (μ : wm_M) (Q : Option Value → wm_M → Prop) (h : (((0 : Int32) ≤ x1 → wm_Wp 0 294 27 [.ref 89, .int x1] μ Q) ∧ (¬ (0 : Int32) ≤ x1 → wm_OkI 0 185 [.ref 89, .int (-4 : Int32)] μ (fun r2 μ1 => Q (some (.int r2)) μ1)))) : wm_Wp 0 294 16 [.ref 89, .int x1] μ Q := wm_vc mo_294 (rt := some .int) (by decide +kernel) mc_294 102 h
-- WindBoatModel.stay(I)I, the place 27
set_option maxRecDepth 100000 in
set_option maxHeartbeats 8000000 in
theorem f_294_27 (x1 : Int32) (μ : wm_M) (Q : Option Value → wm_M → Prop) (h : wm_OkI 0 184 [.int x1, .int (1 : Int32), .int (60 : Int32)] μ (fun r2 μ1 => ((r2 = (0 : Int32) → wm_Wp 0 294 37 [.ref 89, .null] μ1 Q) ∧ (¬ r2 = (0 : Int32) → wm_Wp 0 294 44 [.ref 89, .int x1] μ1 Q)))) : wm_Wp 0 294 27 [.ref 89, .int x1] μ Q := wm_vc mo_294 (rt := some .int) (by decide +kernel) mc_294 102 h
-- WindBoatModel.stay(I)I, the place 37
set_option maxRecDepth 100000 in
set_option maxHeartbeats 8000000 in
theorem f_294_37 (μ : wm_M) (Q : Option Value → wm_M → Prop) (h : wm_OkI 0 185 [.ref 89, .int (-7 : Int32)] μ (fun r2 μ1 => Q (some (.int r2)) μ1)) : wm_Wp 0 294 37 [.ref 89, .null] μ Q := wm_vc mo_294 (rt := some .int) (by decide +kernel) mc_294 102 h
-- WindBoatModel.stay(I)I, the place 44
set_option maxRecDepth 100000 in
set_option maxHeartbeats 8000000 in
theorem f_294_44 (x1 : Int32) (μ : wm_M) (Q : Option Value → wm_M → Prop) (h : wm_OkI 0 188 [.ref 89, .int (10 : Int32)] μ (fun r2 μ1 => (((r2 + x1) ≤ (120 : Int32) → wm_Wp 0 294 64 [.ref 89, .int x1] μ1 Q) ∧ (¬ (r2 + x1) ≤ (120 : Int32) → wm_Wp 0 294 57 [.ref 89, .null] μ1 Q)))) : wm_Wp 0 294 44 [.ref 89, .int x1] μ Q := wm_vc mo_294 (rt := some .int) (by decide +kernel) mc_294 102 h
-- WindBoatModel.stay(I)I, the place 57
set_option maxRecDepth 100000 in
set_option maxHeartbeats 8000000 in
theorem f_294_57 (μ : wm_M) (Q : Option Value → wm_M → Prop) (h : wm_OkI 0 185 [.ref 89, .int (-8 : Int32)] μ (fun r2 μ1 => Q (some (.int r2)) μ1)) : wm_Wp 0 294 57 [.ref 89, .null] μ Q := wm_vc mo_294 (rt := some .int) (by decide +kernel) mc_294 102 h
-- WindBoatModel.stay(I)I, the place 64
set_option maxRecDepth 100000 in
set_option maxHeartbeats 8000000 in
theorem f_294_64 (x1 : Int32) (μ : wm_M) (Q : Option Value → wm_M → Prop) (h : wm_OkV 0 293 [.ref 89, .int x1] μ (fun μ1 => wm_Wp 0 294 69 [.ref 89, .null] μ1 Q)) : wm_Wp 0 294 64 [.ref 89, .int x1] μ Q := wm_vc mo_294 (rt := some .int) (by decide +kernel) mc_294 102 h
-- WindBoatModel.stay(I)I, the place 69
set_option maxRecDepth 100000 in
set_option maxHeartbeats 8000000 in
theorem f_294_69 (μ : wm_M) (Q : Option Value → wm_M → Prop) (h : wm_OkI 0 188 [.ref 89, .int (10 : Int32)] μ (fun r2 μ1 => Q (some (.int r2)) μ1)) : wm_Wp 0 294 69 [.ref 89, .null] μ Q := wm_vc mo_294 (rt := some .int) (by decide +kernel) mc_294 102 h
-- WindBoatModel.go(I)I
set_option maxRecDepth 100000 in
set_option maxHeartbeats 8000000 in
theorem f_295 (a1 : Int32) (μ : wm_M) (Q : Option Value → wm_M → Prop) (h : wm_OkI 0 188 [.ref 89, .int (6 : Int32)] μ (fun r2 μ1 => ((r2 = (0 : Int32) → wm_Wp 0 295 9 [.ref 89, .null, .null, .null, .null, .null, .null] μ1 Q) ∧ (¬ r2 = (0 : Int32) → wm_Wp 0 295 16 [.ref 89, .int a1, .null, .null, .null, .null, .null] μ1 Q)))) : wm_Ok 0 295 [.ref 89, .int a1] μ Q := wm_ent (nL := 7) (l := [.ref 89, .int a1, .null, .null, .null, .null, .null]) (by decide +kernel) (by decide +kernel) (by decide +kernel) rfl rfl (wm_vc mo_295 (rt := some .int) (by decide +kernel) mc_295 346 h)
-- WindBoatModel.go(I)I, the place 9
set_option maxRecDepth 100000 in
set_option maxHeartbeats 8000000 in
theorem f_295_9 (μ : wm_M) (Q : Option Value → wm_M → Prop) (h : wm_OkI 0 185 [.ref 89, .int (-2 : Int32)] μ (fun r2 μ1 => Q (some (.int r2)) μ1)) : wm_Wp 0 295 9 [.ref 89, .null, .null, .null, .null, .null, .null] μ Q := wm_vc mo_295 (rt := some .int) (by decide +kernel) mc_295 346 h
-- WindBoatModel.go(I)I, the place 16
set_option maxRecDepth 100000 in
set_option maxHeartbeats 8000000 in
theorem f_295_16 (x1 : Int32) (μ : wm_M) (Q : Option Value → wm_M → Prop) (h : wm_OkI 0 184 [.int x1, .int (0 : Int32), .int (7 : Int32)] μ (fun r2 μ1 => ((r2 = (0 : Int32) → wm_Wp 0 295 26 [.ref 89, .null, .null, .null, .null, .null, .null] μ1 Q) ∧ (¬ r2 = (0 : Int32) → wm_Wp 0 295 33 [.ref 89, .int x1, .null, .null, .null, .null, .null] μ1 Q)))) : wm_Wp 0 295 16 [.ref 89, .int x1, .null, .null, .null, .null, .null] μ Q := wm_vc mo_295 (rt := some .int) (by decide +kernel) mc_295 346 h
-- WindBoatModel.go(I)I, the place 26
set_option maxRecDepth 100000 in
set_option maxHeartbeats 8000000 in
theorem f_295_26 (μ : wm_M) (Q : Option Value → wm_M → Prop) (h : wm_OkI 0 185 [.ref 89, .int (-3 : Int32)] μ (fun r2 μ1 => Q (some (.int r2)) μ1)) : wm_Wp 0 295 26 [.ref 89, .null, .null, .null, .null, .null, .null] μ Q := wm_vc mo_295 (rt := some .int) (by decide +kernel) mc_295 346 h
-- WindBoatModel.go(I)I, the place 33
set_option maxRecDepth 100000 in
set_option maxHeartbeats 8000000 in
theorem f_295_33 (x1 : Int32) (μ : wm_M) (Q : Option Value → wm_M → Prop) (h : wm_OkI 0 188 [.ref 89, .int (8 : Int32)] μ (fun r2 μ1 => wm_OkI 0 248 [.int r2, .int x1] μ1 (fun r4 μ3 => wm_Wp 0 295 44 [.ref 89, .int x1, .int r4, .null, .null, .null, .null] μ3 Q))) : wm_Wp 0 295 33 [.ref 89, .int x1, .null, .null, .null, .null, .null] μ Q := wm_vc mo_295 (rt := some .int) (by decide +kernel) mc_295 346 h
-- WindBoatModel.go(I)I, the place 44
set_option maxRecDepth 100000 in
set_option maxHeartbeats 8000000 in
theorem f_295_44 (x1 : Int32) (x2 : Int32) (μ : wm_M) (Q : Option Value → wm_M → Prop) (h : wm_OkI 0 188 [.ref 89, .int (10 : Int32)] μ (fun r2 μ1 => wm_Wp 0 295 53 [.ref 89, .int x1, .int x2, .int (r2 + x2), .null, .null, .null] μ1 Q)) : wm_Wp 0 295 44 [.ref 89, .int x1, .int x2, .null, .null, .null, .null] μ Q := wm_vc mo_295 (rt := some .int) (by decide +kernel) mc_295 346 h
-- WindBoatModel.go(I)I, the place 53
set_option maxRecDepth 100000 in
set_option maxHeartbeats 8000000 in
theorem f_295_53 (x1 : Int32) (x2 : Int32) (x3 : Int32) (μ : wm_M) (Q : Option Value → wm_M → Prop) (h : wm_OkI 0 188 [.ref 89, .int (9 : Int32)] μ (fun r2 μ1 => wm_OkI 0 213 [.ref 89, .int r2] μ1 (fun r4 μ3 => ((r4 = (0 : Int32) → wm_Wp 0 295 76 [.ref 89, .int x1, .int x2, .int x3, .null, .null, .null] μ3 Q) ∧ (¬ r4 = (0 : Int32) → wm_Wp 0 295 66 [.ref 89, .int x1, .int x2, .int x3, .null, .null, .null] μ3 Q))))) : wm_Wp 0 295 53 [.ref 89, .int x1, .int x2, .int x3, .null, .null, .null] μ Q := wm_vc mo_295 (rt := some .int) (by decide +kernel) mc_295 346 h
-- WindBoatModel.go(I)I, the place 66
set_option maxRecDepth 100000 in
set_option maxHeartbeats 8000000 in
theorem f_295_66 (x1 : Int32) (x2 : Int32) (x3 : Int32) (μ : wm_M) (Q : Option Value → wm_M → Prop) (h : (((120 : Int32) ≤ x3 → wm_Wp 0 295 76 [.ref 89, .int x1, .int x2, .int x3, .null, .null, .null] μ Q) ∧ (¬ (120 : Int32) ≤ x3 → wm_OkI 0 188 [.ref 89, .int (10 : Int32)] μ (fun r2 μ1 => wm_Wp 0 295 87 [.ref 89, .int x1, .int x2, .int x3, .int (1 : Int32), .int r2, .null] μ1 Q)))) : wm_Wp 0 295 66 [.ref 89, .int x1, .int x2, .int x3, .null, .null, .null] μ Q := wm_vc mo_295 (rt := some .int) (by decide +kernel) mc_295 346 h
-- WindBoatModel.go(I)I, the place 76
set_option maxRecDepth 100000 in
set_option maxHeartbeats 8000000 in
theorem f_295_76 (x1 : Int32) (x2 : Int32) (x3 : Int32) (μ : wm_M) (Q : Option Value → wm_M → Prop) (h : wm_OkI 0 188 [.ref 89, .int (10 : Int32)] μ (fun r2 μ1 => wm_Wp 0 295 87 [.ref 89, .int x1, .int x2, .int x3, .int (0 : Int32), .int r2, .null] μ1 Q)) : wm_Wp 0 295 76 [.ref 89, .int x1, .int x2, .int x3, .null, .null, .null] μ Q := wm_vc mo_295 (rt := some .int) (by decide +kernel) mc_295 346 h
-- WindBoatModel.go(I)I, the place 87
set_option maxRecDepth 100000 in
set_option maxHeartbeats 8000000 in
theorem f_295_87 (x1 : Int32) (x2 : Int32) (x3 : Int32) (x4 : Int32) (x5 : Int32) (μ : wm_M) (Q : Option Value → wm_M → Prop) (h : ((x3 ≤ x5 → wm_Wp 0 295 135 [.ref 89, .int x1, .int x2, .int x3, .int x4, .null, .null] μ Q) ∧ (¬ x3 ≤ x5 → ((x4 = (0 : Int32) → wm_Wp 0 295 135 [.ref 89, .int x1, .int x2, .int x3, .int x4, .null, .null] μ Q) ∧ (¬ x4 = (0 : Int32) → wm_OkI 0 188 [.ref 89, .int (9 : Int32)] μ (fun r2 μ1 => wm_OkI 0 188 [.ref 89, .int (7 : Int32)] μ1 (fun r4 μ3 => wm_OkI 0 192 [.int x5] μ3 (fun r6 μ5 => wm_OkI 0 292 [.ref 89, .int r2, .int r4, .int r6] μ5 (fun r8 μ7 => ((r8 = (0 : Int32) → wm_Wp 0 295 122 [.ref 89, .int x1, .int x2, .int x3, .null, .int x5, .null] μ7 Q) ∧ (¬ r8 = (0 : Int32) → wm_Wp 0 295 126 [.ref 89, .int x1, .int x2, .int x3, .null, .int x5, .null] μ7 Q))))))))))) : wm_Wp 0 295 87 [.ref 89, .int x1, .int x2, .int x3, .int x4, .int x5, .null] μ Q := wm_vc mo_295 (rt := some .int) (by decide +kernel) mc_295 346 h
-- WindBoatModel.go(I)I, the place 122
set_option maxRecDepth 100000 in
set_option maxHeartbeats 8000000 in
theorem f_295_122 (x1 : Int32) (x2 : Int32) (x3 : Int32) (x5 : Int32) (μ : wm_M) (Q : Option Value → wm_M → Prop) (h : wm_Wp 0 295 87 [.ref 89, .int x1, .int x2, .int x3, .int (1 : Int32), .int (x5 + (1 : Int32)), .null] μ Q) : wm_Wp 0 295 122 [.ref 89, .int x1, .int x2, .int x3, .null, .int x5, .null] μ Q := wm_vc mo_295 (rt := some .int) (by decide +kernel) mc_295 346 h
-- WindBoatModel.go(I)I, the place 126
set_option maxRecDepth 100000 in
set_option maxHeartbeats 8000000 in
theorem f_295_126 (x1 : Int32) (x2 : Int32) (x3 : Int32) (x5 : Int32) (μ : wm_M) (Q : Option Value → wm_M → Prop) (h : wm_Wp 0 295 87 [.ref 89, .int x1, .int x2, .int x3, .int (0 : Int32), .int (x5 + (1 : Int32)), .null] μ Q) : wm_Wp 0 295 126 [.ref 89, .int x1, .int x2, .int x3, .null, .int x5, .null] μ Q := wm_vc mo_295 (rt := some .int) (by decide +kernel) mc_295 346 h
-- WindBoatModel.go(I)I, the place 135
set_option maxRecDepth 100000 in
set_option maxHeartbeats 8000000 in
theorem f_295_135 (x1 : Int32) (x2 : Int32) (x3 : Int32) (x4 : Int32) (μ : wm_M) (Q : Option Value → wm_M → Prop) (h : ((x4 = (0 : Int32) → wm_OkI 0 185 [.ref 89, .int (-7 : Int32)] μ (fun r2 μ1 => Q (some (.int r2)) μ1)) ∧ (¬ x4 = (0 : Int32) → wm_Wp 0 295 147 [.ref 89, .int x1, .int x2, .int x3, .null, .null, .null] μ Q))) : wm_Wp 0 295 135 [.ref 89, .int x1, .int x2, .int x3, .int x4, .null, .null] μ Q := wm_vc mo_295 (rt := some .int) (by decide +kernel) mc_295 346 h
-- WindBoatModel.go(I)I, the place 147
set_option maxRecDepth 100000 in
set_option maxHeartbeats 8000000 in
theorem f_295_147 (x1 : Int32) (x2 : Int32) (x3 : Int32) (μ : wm_M) (Q : Option Value → wm_M → Prop) (h : wm_OkI 0 188 [.ref 89, .int (7 : Int32)] μ (fun r2 μ1 => wm_OkI 0 247 [.int r2, .int x1] μ1 (fun r4 μ3 => wm_Wp 0 295 159 [.ref 89, .int x1, .int x2, .int x3, .null, .int r4, .null] μ3 Q))) : wm_Wp 0 295 147 [.ref 89, .int x1, .int x2, .int x3, .null, .null, .null] μ Q := wm_vc mo_295 (rt := some .int) (by decide +kernel) mc_295 346 h
-- WindBoatModel.go(I)I, the place 159
set_option maxRecDepth 100000 in
set_option maxHeartbeats 8000000 in
theorem f_295_159 (x1 : Int32) (x2 : Int32) (x3 : Int32) (x5 : Int32) (μ : wm_M) (Q : Option Value → wm_M → Prop) (h : wm_OkI 0 192 [.int x3] μ (fun r2 μ1 => wm_OkI 0 188 [.ref 89, .int (7 : Int32)] μ1 (fun r4 μ3 => wm_OkI 0 188 [.ref 89, .int (9 : Int32)] μ3 (fun r6 μ5 => wm_OkV 0 245 [.ref 89, .int r2, .int r4, .int r6] μ5 (fun μ7 => wm_Wp 0 295 179 [.ref 89, .int x1, .int x2, .int x3, .null, .int x5, .null] μ7 Q))))) : wm_Wp 0 295 159 [.ref 89, .int x1, .int x2, .int x3, .null, .int x5, .null] μ Q := wm_vc mo_295 (rt := some .int) (by decide +kernel) mc_295 346 h
-- WindBoatModel.go(I)I, the place 179
set_option maxRecDepth 100000 in
set_option maxHeartbeats 8000000 in
theorem f_295_179 (x1 : Int32) (x2 : Int32) (x3 : Int32) (x5 : Int32) (μ : wm_M) (Q : Option Value → wm_M → Prop) (h : ((x5 = (-1 : Int32) → wm_Wp 0 295 201 [.ref 89, .int x1, .int x2, .int x3, .null, .null, .null] μ Q) ∧ (¬ x5 = (-1 : Int32) → wm_OkI 0 192 [.int x3] μ (fun r2 μ1 => wm_OkI 0 188 [.ref 89, .int (9 : Int32)] μ1 (fun r4 μ3 => wm_OkV 0 245 [.ref 89, .int r2, .int x5, .int r4] μ3 (fun μ5 => wm_Wp 0 295 201 [.ref 89, .int x1, .int x2, .int x3, .null, .null, .null] μ5 Q)))))) : wm_Wp 0 295 179 [.ref 89, .int x1, .int x2, .int x3, .null, .int x5, .null] μ Q := wm_vc mo_295 (rt := some .int) (by decide +kernel) mc_295 346 h
-- WindBoatModel.go(I)I, the place 201
set_option maxRecDepth 100000 in
set_option maxHeartbeats 8000000 in
theorem f_295_201 (x1 : Int32) (x2 : Int32) (x3 : Int32) (μ : wm_M) (Q : Option Value → wm_M → Prop) (h : wm_OkI 0 188 [.ref 89, .int (7 : Int32)] μ (fun r2 μ1 => wm_OkI 0 188 [.ref 89, .int (9 : Int32)] μ1 (fun r4 μ3 => wm_OkI 0 192 [.int x3] μ3 (fun r6 μ5 => wm_OkI 0 249 [.ref 89, .int (6 : Int32), .int (1 : Int32), .int (((3 : Int32) * (((8 : Int32) * r2) + x1)) + r4), .int r6] μ5 (fun r8 μ7 => wm_Wp 0 295 234 [.ref 89, .int x1, .int x2, .int x3, .null, .null, .int r8] μ7 Q))))) : wm_Wp 0 295 201 [.ref 89, .int x1, .int x2, .int x3, .null, .null, .null] μ Q := wm_vc mo_295 (rt := some .int) (by decide +kernel) mc_295 346 h
-- WindBoatModel.go(I)I, the place 234
set_option maxRecDepth 100000 in
set_option maxHeartbeats 8000000 in
theorem f_295_234 (x1 : Int32) (x2 : Int32) (x3 : Int32) (x6 : Int32) (μ : wm_M) (Q : Option Value → wm_M → Prop) (h : ((x6 = (0 : Int32) → wm_Wp 0 295 248 [.ref 89, .null, .null, .null, .null, .null, .null] μ Q) ∧ (¬ x6 = (0 : Int32) → (((x3 + x6) ≤ (120 : Int32) → wm_Wp 0 295 255 [.ref 89, .int x1, .int x2, .null, .null, .null, .int x6] μ Q) ∧ (¬ (x3 + x6) ≤ (120 : Int32) → wm_Wp 0 295 248 [.ref 89, .null, .null, .null, .null, .null, .null] μ Q))))) : wm_Wp 0 295 234 [.ref 89, .int x1, .int x2, .int x3, .null, .null, .int x6] μ Q := wm_vc mo_295 (rt := some .int) (by decide +kernel) mc_295 346 h
-- WindBoatModel.go(I)I, the place 248
set_option maxRecDepth 100000 in
set_option maxHeartbeats 8000000 in
theorem f_295_248 (μ : wm_M) (Q : Option Value → wm_M → Prop) (h : wm_OkI 0 185 [.ref 89, .int (-7 : Int32)] μ (fun r2 μ1 => Q (some (.int r2)) μ1)) : wm_Wp 0 295 248 [.ref 89, .null, .null, .null, .null, .null, .null] μ Q := wm_vc mo_295 (rt := some .int) (by decide +kernel) mc_295 346 h
-- WindBoatModel.go(I)I, the place 255
set_option maxRecDepth 100000 in
set_option maxHeartbeats 8000000 in
theorem f_295_255 (x1 : Int32) (x2 : Int32) (x6 : Int32) (μ : wm_M) (Q : Option Value → wm_M → Prop) (h : wm_OkV 0 293 [.ref 89, .int (x2 + x6)] μ (fun μ1 => wm_Wp 0 295 263 [.ref 89, .int x1, .null, .null, .null, .null, .null] μ1 Q)) : wm_Wp 0 295 255 [.ref 89, .int x1, .int x2, .null, .null, .null, .int x6] μ Q := wm_vc mo_295 (rt := some .int) (by decide +kernel) mc_295 346 h
-- WindBoatModel.go(I)I, the place 263
set_option maxRecDepth 100000 in
set_option maxHeartbeats 8000000 in
theorem f_295_263 (x1 : Int32) (μ : wm_M) (Q : Option Value → wm_M → Prop) (h : (vp_in (2048 : Int32) 2060 ∧ wm_Wp 0 295 272 [.ref 89, .int x1, .null, .null, .null, .null, .null] (wm_si μ 91 ((2048 : Int32)).toNatClampNeg x1) Q)) : wm_Wp 0 295 263 [.ref 89, .int x1, .null, .null, .null, .null, .null] μ Q := wm_vc mo_295 (rt := some .int) (by decide +kernel) mc_295 346 h
-- WindBoatModel.go(I)I, the place 272
set_option maxRecDepth 100000 in
set_option maxHeartbeats 8000000 in
theorem f_295_272 (x1 : Int32) (μ : wm_M) (Q : Option Value → wm_M → Prop) (h : wm_OkI 0 188 [.ref 89, .int (7 : Int32)] μ (fun r2 μ1 => wm_OkI 0 247 [.int r2, .int x1] μ1 (fun r4 μ3 => (vp_in (2047 : Int32) 2060 ∧ wm_Wp 0 295 290 [.ref 89, .null, .null, .null, .null, .null, .null] (wm_si μ3 91 ((2047 : Int32)).toNatClampNeg r4) Q)))) : wm_Wp 0 295 272 [.ref 89, .int x1, .null, .null, .null, .null, .null] μ Q := wm_vc mo_295 (rt := some .int) (by decide +kernel) mc_295 346 h
-- WindBoatModel.go(I)I, the place 290
set_option maxRecDepth 100000 in
set_option maxHeartbeats 8000000 in
theorem f_295_290 (μ : wm_M) (Q : Option Value → wm_M → Prop) (h : (vp_in (2053 : Int32) 2060 ∧ (vp_in (2053 : Int32) 2060 ∧ wm_Wp 0 295 302 [.ref 89, .null, .null, .null, .null, .null, .null] (wm_si μ 91 ((2053 : Int32)).toNatClampNeg ((μ.1 91 ((2053 : Int32)).toNatClampNeg) + (1 : Int32))) Q))) : wm_Wp 0 295 290 [.ref 89, .null, .null, .null, .null, .null, .null] μ Q := wm_vc mo_295 (rt := some .int) (by decide +kernel) mc_295 346 h
-- WindBoatModel.go(I)I, the place 302
set_option maxRecDepth 100000 in
set_option maxHeartbeats 8000000 in
theorem f_295_302 (μ : wm_M) (Q : Option Value → wm_M → Prop) (h : wm_OkI 0 188 [.ref 89, .int (10 : Int32)] μ (fun r2 μ1 => Q (some (.int r2)) μ1)) : wm_Wp 0 295 302 [.ref 89, .null, .null, .null, .null, .null, .null] μ Q := wm_vc mo_295 (rt := some .int) (by decide +kernel) mc_295 346 h
-- WindBoatModel.raise(I)I
set_option maxRecDepth 100000 in
set_option maxHeartbeats 8000000 in
theorem f_296 (a1 : Int32) (μ : wm_M) (Q : Option Value → wm_M → Prop) (h : wm_OkI 0 188 [.ref 89, .int (6 : Int32)] μ (fun r2 μ1 => ((r2 = (0 : Int32) → wm_Wp 0 296 9 [.ref 89, .null, .null] μ1 Q) ∧ (¬ r2 = (0 : Int32) → wm_Wp 0 296 16 [.ref 89, .int a1, .null] μ1 Q)))) : wm_Ok 0 296 [.ref 89, .int a1] μ Q := wm_ent (nL := 3) (l := [.ref 89, .int a1, .null]) (by decide +kernel) (by decide +kernel) (by decide +kernel) rfl rfl (wm_vc mo_296 (rt := some .int) (by decide +kernel) mc_296 130 h)
-- WindBoatModel.raise(I)I, the place 9
set_option maxRecDepth 100000 in
set_option maxHeartbeats 8000000 in
theorem f_296_9 (μ : wm_M) (Q : Option Value → wm_M → Prop) (h : wm_OkI 0 185 [.ref 89, .int (-2 : Int32)] μ (fun r2 μ1 => Q (some (.int r2)) μ1)) : wm_Wp 0 296 9 [.ref 89, .null, .null] μ Q := wm_vc mo_296 (rt := some .int) (by decide +kernel) mc_296 130 h
-- WindBoatModel.raise(I)I, the place 16
set_option maxRecDepth 100000 in
set_option maxHeartbeats 8000000 in
theorem f_296_16 (x1 : Int32) (μ : wm_M) (Q : Option Value → wm_M → Prop) (h : wm_OkI 0 191 [.ref 89, .int x1] μ (fun r2 μ1 => ((r2 = (0 : Int32) → wm_Wp 0 296 24 [.ref 89, .null, .null] μ1 Q) ∧ (¬ r2 = (0 : Int32) → wm_Wp 0 296 31 [.ref 89, .int x1, .null] μ1 Q)))) : wm_Wp 0 296 16 [.ref 89, .int x1, .null] μ Q := wm_vc mo_296 (rt := some .int) (by decide +kernel) mc_296 130 h
-- WindBoatModel.raise(I)I, the place 24
set_option maxRecDepth 100000 in
set_option maxHeartbeats 8000000 in
theorem f_296_24 (μ : wm_M) (Q : Option Value → wm_M → Prop) (h : wm_OkI 0 185 [.ref 89, .int (-3 : Int32)] μ (fun r2 μ1 => Q (some (.int r2)) μ1)) : wm_Wp 0 296 24 [.ref 89, .null, .null] μ Q := wm_vc mo_296 (rt := some .int) (by decide +kernel) mc_296 130 h
-- WindBoatModel.raise(I)I, the place 31
set_option maxRecDepth 100000 in
set_option maxHeartbeats 8000000 in
theorem f_296_31 (x1 : Int32) (μ : wm_M) (Q : Option Value → wm_M → Prop) (h : wm_OkI 0 188 [.ref 89, .int (9 : Int32)] μ (fun r2 μ1 => ((x1 = r2 → wm_Wp 0 296 49 [.ref 89, .null, .null] μ1 Q) ∧ (¬ x1 = r2 → wm_Wp 0 296 41 [.ref 89, .int x1, .null] μ1 Q)))) : wm_Wp 0 296 31 [.ref 89, .int x1, .null] μ Q := wm_vc mo_296 (rt := some .int) (by decide +kernel) mc_296 130 h
-- WindBoatModel.raise(I)I, the place 41
set_option maxRecDepth 100000 in
set_option maxHeartbeats 8000000 in
theorem f_296_41 (x1 : Int32) (μ : wm_M) (Q : Option Value → wm_M → Prop) (h : wm_OkI 0 213 [.ref 89, .int x1] μ (fun r2 μ1 => ((r2 = (0 : Int32) → wm_Wp 0 296 49 [.ref 89, .null, .null] μ1 Q) ∧ (¬ r2 = (0 : Int32) → wm_Wp 0 296 56 [.ref 89, .int x1, .null] μ1 Q)))) : wm_Wp 0 296 41 [.ref 89, .int x1, .null] μ Q := wm_vc mo_296 (rt := some .int) (by decide +kernel) mc_296 130 h
-- WindBoatModel.raise(I)I, the place 49
set_option maxRecDepth 100000 in
set_option maxHeartbeats 8000000 in
theorem f_296_49 (μ : wm_M) (Q : Option Value → wm_M → Prop) (h : wm_OkI 0 185 [.ref 89, .int (-7 : Int32)] μ (fun r2 μ1 => Q (some (.int r2)) μ1)) : wm_Wp 0 296 49 [.ref 89, .null, .null] μ Q := wm_vc mo_296 (rt := some .int) (by decide +kernel) mc_296 130 h
-- WindBoatModel.raise(I)I, the place 56
set_option maxRecDepth 100000 in
set_option maxHeartbeats 8000000 in
theorem f_296_56 (x1 : Int32) (μ : wm_M) (Q : Option Value → wm_M → Prop) (h : wm_OkI 0 222 [.ref 89] μ (fun r2 μ1 => wm_Wp 0 296 61 [.ref 89, .int x1, .int r2] μ1 Q)) : wm_Wp 0 296 56 [.ref 89, .int x1, .null] μ Q := wm_vc mo_296 (rt := some .int) (by decide +kernel) mc_296 130 h
-- WindBoatModel.raise(I)I, the place 61
set_option maxRecDepth 100000 in
set_option maxHeartbeats 8000000 in
theorem f_296_61 (x1 : Int32) (x2 : Int32) (μ : wm_M) (Q : Option Value → wm_M → Prop) (h : wm_OkI 0 188 [.ref 89, .int (10 : Int32)] μ (fun r2 μ1 => (((r2 + x2) ≤ (120 : Int32) → wm_Wp 0 296 81 [.ref 89, .int x1, .int x2] μ1 Q) ∧ (¬ (r2 + x2) ≤ (120 : Int32) → wm_Wp 0 296 74 [.ref 89, .null, .null] μ1 Q)))) : wm_Wp 0 296 61 [.ref 89, .int x1, .int x2] μ Q := wm_vc mo_296 (rt := some .int) (by decide +kernel) mc_296 130 h
-- WindBoatModel.raise(I)I, the place 74
set_option maxRecDepth 100000 in
set_option maxHeartbeats 8000000 in
theorem f_296_74 (μ : wm_M) (Q : Option Value → wm_M → Prop) (h : wm_OkI 0 185 [.ref 89, .int (-8 : Int32)] μ (fun r2 μ1 => Q (some (.int r2)) μ1)) : wm_Wp 0 296 74 [.ref 89, .null, .null] μ Q := wm_vc mo_296 (rt := some .int) (by decide +kernel) mc_296 130 h
-- WindBoatModel.raise(I)I, the place 81
set_option maxRecDepth 100000 in
set_option maxHeartbeats 8000000 in
theorem f_296_81 (x1 : Int32) (x2 : Int32) (μ : wm_M) (Q : Option Value → wm_M → Prop) (h : wm_OkV 0 293 [.ref 89, .int x2] μ (fun μ1 => wm_Wp 0 296 86 [.ref 89, .int x1, .null] μ1 Q)) : wm_Wp 0 296 81 [.ref 89, .int x1, .int x2] μ Q := wm_vc mo_296 (rt := some .int) (by decide +kernel) mc_296 130 h
-- WindBoatModel.raise(I)I, the place 86
set_option maxRecDepth 100000 in
set_option maxHeartbeats 8000000 in
theorem f_296_86 (x1 : Int32) (μ : wm_M) (Q : Option Value → wm_M → Prop) (h : (vp_in (2049 : Int32) 2060 ∧ wm_Wp 0 296 95 [.ref 89, .null, .null] (wm_si μ 91 ((2049 : Int32)).toNatClampNeg x1) Q)) : wm_Wp 0 296 86 [.ref 89, .int x1, .null] μ Q := wm_vc mo_296 (rt := some .int) (by decide +kernel) mc_296 130 h
-- WindBoatModel.raise(I)I, the place 95
set_option maxRecDepth 100000 in
set_option maxHeartbeats 8000000 in
theorem f_296_95 (μ : wm_M) (Q : Option Value → wm_M → Prop) (h : wm_OkI 0 188 [.ref 89, .int (10 : Int32)] μ (fun r2 μ1 => Q (some (.int r2)) μ1)) : wm_Wp 0 296 95 [.ref 89, .null, .null] μ Q := wm_vc mo_296 (rt := some .int) (by decide +kernel) mc_296 130 h
-- WindBoatModel.mend(I)I
set_option maxRecDepth 100000 in
set_option maxHeartbeats 8000000 in
theorem f_297 (a1 : Int32) (μ : wm_M) (Q : Option Value → wm_M → Prop) (h : wm_OkI 0 188 [.ref 89, .int (6 : Int32)] μ (fun r2 μ1 => ((r2 = (0 : Int32) → wm_Wp 0 297 9 [.ref 89, .null] μ1 Q) ∧ (¬ r2 = (0 : Int32) → wm_Wp 0 297 16 [.ref 89, .int a1] μ1 Q)))) : wm_Ok 0 297 [.ref 89, .int a1] μ Q := wm_ent (nL := 2) (l := [.ref 89, .int a1]) (by decide +kernel) (by decide +kernel) (by decide +kernel) rfl rfl (wm_vc mo_297 (rt := some .int) (by decide +kernel) mc_297 118 h)
-- WindBoatModel.mend(I)I, the place 9
set_option maxRecDepth 100000 in
set_option maxHeartbeats 8000000 in
theorem f_297_9 (μ : wm_M) (Q : Option Value → wm_M → Prop) (h : wm_OkI 0 185 [.ref 89, .int (-2 : Int32)] μ (fun r2 μ1 => Q (some (.int r2)) μ1)) : wm_Wp 0 297 9 [.ref 89, .null] μ Q := wm_vc mo_297 (rt := some .int) (by decide +kernel) mc_297 118 h
-- WindBoatModel.mend(I)I, the place 16
set_option maxRecDepth 100000 in
set_option maxHeartbeats 8000000 in
theorem f_297_16 (x1 : Int32) (μ : wm_M) (Q : Option Value → wm_M → Prop) (h : wm_OkI 0 191 [.ref 89, .int x1] μ (fun r2 μ1 => ((r2 = (0 : Int32) → wm_Wp 0 297 24 [.ref 89, .null] μ1 Q) ∧ (¬ r2 = (0 : Int32) → wm_Wp 0 297 31 [.ref 89, .int x1] μ1 Q)))) : wm_Wp 0 297 16 [.ref 89, .int x1] μ Q := wm_vc mo_297 (rt := some .int) (by decide +kernel) mc_297 118 h
-- WindBoatModel.mend(I)I, the place 24
set_option maxRecDepth 100000 in
set_option maxHeartbeats 8000000 in
theorem f_297_24 (μ : wm_M) (Q : Option Value → wm_M → Prop) (h : wm_OkI 0 185 [.ref 89, .int (-3 : Int32)] μ (fun r2 μ1 => Q (some (.int r2)) μ1)) : wm_Wp 0 297 24 [.ref 89, .null] μ Q := wm_vc mo_297 (rt := some .int) (by decide +kernel) mc_297 118 h
-- WindBoatModel.mend(I)I, the place 31
set_option maxRecDepth 100000 in
set_option maxHeartbeats 8000000 in
theorem f_297_31 (x1 : Int32) (μ : wm_M) (Q : Option Value → wm_M → Prop) (h : wm_OkI 0 213 [.ref 89, .int x1] μ (fun r2 μ1 => ((r2 = (0 : Int32) → wm_Wp 0 297 46 [.ref 89, .int x1] μ1 Q) ∧ (¬ r2 = (0 : Int32) → wm_Wp 0 297 39 [.ref 89, .null] μ1 Q)))) : wm_Wp 0 297 31 [.ref 89, .int x1] μ Q := wm_vc mo_297 (rt := some .int) (by decide +kernel) mc_297 118 h
-- WindBoatModel.mend(I)I, the place 39
set_option maxRecDepth 100000 in
set_option maxHeartbeats 8000000 in
theorem f_297_39 (μ : wm_M) (Q : Option Value → wm_M → Prop) (h : wm_OkI 0 185 [.ref 89, .int (-7 : Int32)] μ (fun r2 μ1 => Q (some (.int r2)) μ1)) : wm_Wp 0 297 39 [.ref 89, .null] μ Q := wm_vc mo_297 (rt := some .int) (by decide +kernel) mc_297 118 h
-- WindBoatModel.mend(I)I, the place 46
set_option maxRecDepth 100000 in
set_option maxHeartbeats 8000000 in
theorem f_297_46 (x1 : Int32) (μ : wm_M) (Q : Option Value → wm_M → Prop) (h : wm_OkI 0 188 [.ref 89, .int (10 : Int32)] μ (fun r2 μ1 => (((r2 + (12 : Int32)) ≤ (120 : Int32) → wm_Wp 0 297 67 [.ref 89, .int x1] μ1 Q) ∧ (¬ (r2 + (12 : Int32)) ≤ (120 : Int32) → wm_Wp 0 297 60 [.ref 89, .null] μ1 Q)))) : wm_Wp 0 297 46 [.ref 89, .int x1] μ Q := wm_vc mo_297 (rt := some .int) (by decide +kernel) mc_297 118 h
-- WindBoatModel.mend(I)I, the place 60
set_option maxRecDepth 100000 in
set_option maxHeartbeats 8000000 in
theorem f_297_60 (μ : wm_M) (Q : Option Value → wm_M → Prop) (h : wm_OkI 0 185 [.ref 89, .int (-8 : Int32)] μ (fun r2 μ1 => Q (some (.int r2)) μ1)) : wm_Wp 0 297 60 [.ref 89, .null] μ Q := wm_vc mo_297 (rt := some .int) (by decide +kernel) mc_297 118 h
-- WindBoatModel.mend(I)I, the place 67
set_option maxRecDepth 100000 in
set_option maxHeartbeats 8000000 in
theorem f_297_67 (x1 : Int32) (μ : wm_M) (Q : Option Value → wm_M → Prop) (h : wm_OkV 0 293 [.ref 89, .int (12 : Int32)] μ (fun μ1 => wm_Wp 0 297 73 [.ref 89, .int x1] μ1 Q)) : wm_Wp 0 297 67 [.ref 89, .int x1] μ Q := wm_vc mo_297 (rt := some .int) (by decide +kernel) mc_297 118 h
-- WindBoatModel.mend(I)I, the place 73
set_option maxRecDepth 100000 in
set_option maxHeartbeats 8000000 in
theorem f_297_73 (x1 : Int32) (μ : wm_M) (Q : Option Value → wm_M → Prop) (h : (vp_in ((452 : Int32) + x1) 2060 ∧ wm_Wp 0 297 84 [.ref 89, .null] (wm_si μ 91 (((452 : Int32) + x1)).toNatClampNeg (0 : Int32)) Q)) : wm_Wp 0 297 73 [.ref 89, .int x1] μ Q := wm_vc mo_297 (rt := some .int) (by decide +kernel) mc_297 118 h
-- WindBoatModel.mend(I)I, the place 84
set_option maxRecDepth 100000 in
set_option maxHeartbeats 8000000 in
theorem f_297_84 (μ : wm_M) (Q : Option Value → wm_M → Prop) (h : wm_OkI 0 188 [.ref 89, .int (10 : Int32)] μ (fun r2 μ1 => Q (some (.int r2)) μ1)) : wm_Wp 0 297 84 [.ref 89, .null] μ Q := wm_vc mo_297 (rt := some .int) (by decide +kernel) mc_297 118 h
-- WindBoatModel.boat(I)I
set_option maxRecDepth 100000 in
set_option maxHeartbeats 8000000 in
theorem f_298 (a1 : Int32) (μ : wm_M) (Q : Option Value → wm_M → Prop) (h : wm_OkI 0 188 [.ref 89, .int (6 : Int32)] μ (fun r2 μ1 => ((r2 = (0 : Int32) → wm_Wp 0 298 9 [.ref 89, .null, .null, .null] μ1 Q) ∧ (¬ r2 = (0 : Int32) → wm_Wp 0 298 16 [.ref 89, .int a1, .null, .null] μ1 Q)))) : wm_Ok 0 298 [.ref 89, .int a1] μ Q := wm_ent (nL := 4) (l := [.ref 89, .int a1, .null, .null]) (by decide +kernel) (by decide +kernel) (by decide +kernel) rfl rfl (wm_vc mo_298 (rt := some .int) (by decide +kernel) mc_298 142 h)
-- WindBoatModel.boat(I)I, the place 9
set_option maxRecDepth 100000 in
set_option maxHeartbeats 8000000 in
theorem f_298_9 (μ : wm_M) (Q : Option Value → wm_M → Prop) (h : wm_OkI 0 185 [.ref 89, .int (-2 : Int32)] μ (fun r2 μ1 => Q (some (.int r2)) μ1)) : wm_Wp 0 298 9 [.ref 89, .null, .null, .null] μ Q := wm_vc mo_298 (rt := some .int) (by decide +kernel) mc_298 142 h
-- WindBoatModel.boat(I)I, the place 16
set_option maxRecDepth 100000 in
set_option maxHeartbeats 8000000 in
theorem f_298_16 (x1 : Int32) (μ : wm_M) (Q : Option Value → wm_M → Prop) (h : (((x1).toInt < 0 ∨ 7 < (x1).toInt → wm_Wp 0 298 139 [.ref 89, .null, .null, .null] μ Q) ∧ (((x1).toInt = 0 → wm_Wp 0 298 64 [.ref 89, .null, .null, .null] μ Q) ∧ (((x1).toInt = 1 → wm_Wp 0 298 71 [.ref 89, .null, .null, .null] μ Q) ∧ (((x1).toInt = 2 → wm_Wp 0 298 78 [.ref 89, .null, .null, .null] μ Q) ∧ (((x1).toInt = 3 → wm_Wp 0 298 85 [.ref 89, .null, .null, .null] μ Q) ∧ (((x1).toInt = 4 → wm_Wp 0 298 92 [.ref 89, .null, .null, .null] μ Q) ∧ (((x1).toInt = 5 → wm_Wp 0 298 97 [.ref 89, .null, .null, .null] μ Q) ∧ (((x1).toInt = 6 → wm_Wp 0 298 102 [.ref 89, .null, .null, .null] μ Q) ∧ (((x1).toInt = 7 → wm_Wp 0 298 107 [.ref 89, .null, .int (0 : Int32), .null] μ Q) ∧ True)))))))))) : wm_Wp 0 298 16 [.ref 89, .int x1, .null, .null] μ Q := wm_vc mo_298 (rt := some .int) (by decide +kernel) mc_298 142 h
-- WindBoatModel.boat(I)I, the place 64
set_option maxRecDepth 100000 in
set_option maxHeartbeats 8000000 in
theorem f_298_64 (μ : wm_M) (Q : Option Value → wm_M → Prop) (h : wm_OkI 0 188 [.ref 89, .int (7 : Int32)] μ (fun r2 μ1 => Q (some (.int r2)) μ1)) : wm_Wp 0 298 64 [.ref 89, .null, .null, .null] μ Q := wm_vc mo_298 (rt := some .int) (by decide +kernel) mc_298 142 h
-- WindBoatModel.boat(I)I, the place 71
set_option maxRecDepth 100000 in
set_option maxHeartbeats 8000000 in
theorem f_298_71 (μ : wm_M) (Q : Option Value → wm_M → Prop) (h : wm_OkI 0 188 [.ref 89, .int (8 : Int32)] μ (fun r2 μ1 => Q (some (.int r2)) μ1)) : wm_Wp 0 298 71 [.ref 89, .null, .null, .null] μ Q := wm_vc mo_298 (rt := some .int) (by decide +kernel) mc_298 142 h
-- WindBoatModel.boat(I)I, the place 78
set_option maxRecDepth 100000 in
set_option maxHeartbeats 8000000 in
theorem f_298_78 (μ : wm_M) (Q : Option Value → wm_M → Prop) (h : wm_OkI 0 188 [.ref 89, .int (9 : Int32)] μ (fun r2 μ1 => Q (some (.int r2)) μ1)) : wm_Wp 0 298 78 [.ref 89, .null, .null, .null] μ Q := wm_vc mo_298 (rt := some .int) (by decide +kernel) mc_298 142 h
-- WindBoatModel.boat(I)I, the place 85
set_option maxRecDepth 100000 in
set_option maxHeartbeats 8000000 in
theorem f_298_85 (μ : wm_M) (Q : Option Value → wm_M → Prop) (h : wm_OkI 0 188 [.ref 89, .int (10 : Int32)] μ (fun r2 μ1 => Q (some (.int r2)) μ1)) : wm_Wp 0 298 85 [.ref 89, .null, .null, .null] μ Q := wm_vc mo_298 (rt := some .int) (by decide +kernel) mc_298 142 h
-- WindBoatModel.boat(I)I, the place 92
set_option maxRecDepth 100000 in
set_option maxHeartbeats 8000000 in
theorem f_298_92 (μ : wm_M) (Q : Option Value → wm_M → Prop) (h : wm_OkI 0 222 [.ref 89] μ (fun r2 μ1 => Q (some (.int r2)) μ1)) : wm_Wp 0 298 92 [.ref 89, .null, .null, .null] μ Q := wm_vc mo_298 (rt := some .int) (by decide +kernel) mc_298 142 h
-- WindBoatModel.boat(I)I, the place 97
set_option maxRecDepth 100000 in
set_option maxHeartbeats 8000000 in
theorem f_298_97 (μ : wm_M) (Q : Option Value → wm_M → Prop) (h : wm_OkI 0 220 [.ref 89] μ (fun r2 μ1 => Q (some (.int r2)) μ1)) : wm_Wp 0 298 97 [.ref 89, .null, .null, .null] μ Q := wm_vc mo_298 (rt := some .int) (by decide +kernel) mc_298 142 h
-- WindBoatModel.boat(I)I, the place 102
set_option maxRecDepth 100000 in
set_option maxHeartbeats 8000000 in
theorem f_298_102 (μ : wm_M) (Q : Option Value → wm_M → Prop) (h : wm_OkI 0 221 [.ref 89] μ (fun r2 μ1 => Q (some (.int r2)) μ1)) : wm_Wp 0 298 102 [.ref 89, .null, .null, .null] μ Q := wm_vc mo_298 (rt := some .int) (by decide +kernel) mc_298 142 h
-- WindBoatModel.boat(I)I, the place 107
set_option maxRecDepth 100000 in
set_option maxHeartbeats 8000000 in
theorem f_298_107 (x2 : Int32) (μ : wm_M) (Q : Option Value → wm_M → Prop) (h : wm_Wp 0 298 109 [.ref 89, .null, .int x2, .int (0 : Int32)] μ Q) : wm_Wp 0 298 107 [.ref 89, .null, .int x2, .null] μ Q := wm_vc mo_298 (rt := some .int) (by decide +kernel) mc_298 142 h
-- WindBoatModel.boat(I)I, the place 109
set_option maxRecDepth 100000 in
set_option maxHeartbeats 8000000 in
theorem f_298_109 (x2 : Int32) (x3 : Int32) (μ : wm_M) (Q : Option Value → wm_M → Prop) (h : wm_OkI 0 188 [.ref 89, .int (1 : Int32)] μ (fun r2 μ1 => ((r2 ≤ x3 → wm_Wp 0 298 137 [.null, .null, .int x2, .null] μ1 Q) ∧ (¬ r2 ≤ x3 → wm_Wp 0 298 118 [.ref 89, .null, .int x2, .int x3] μ1 Q)))) : wm_Wp 0 298 109 [.ref 89, .null, .int x2, .int x3] μ Q := wm_vc mo_298 (rt := some .int) (by decide +kernel) mc_298 142 h
-- WindBoatModel.boat(I)I, the place 118
set_option maxRecDepth 100000 in
set_option maxHeartbeats 8000000 in
theorem f_298_118 (x2 : Int32) (x3 : Int32) (μ : wm_M) (Q : Option Value → wm_M → Prop) (h : (vp_in ((455 : Int32) + x3) 2060 ∧ wm_Wp 0 298 109 [.ref 89, .null, .int (x2 + (μ.1 91 (((455 : Int32) + x3)).toNatClampNeg)), .int (x3 + (1 : Int32))] μ Q)) : wm_Wp 0 298 118 [.ref 89, .null, .int x2, .int x3] μ Q := wm_vc mo_298 (rt := some .int) (by decide +kernel) mc_298 142 h
-- WindBoatModel.boat(I)I, the place 137
set_option maxRecDepth 100000 in
set_option maxHeartbeats 8000000 in
theorem f_298_137 (x2 : Int32) (μ : wm_M) (Q : Option Value → wm_M → Prop) (h : Q (some (.int x2)) μ) : wm_Wp 0 298 137 [.null, .null, .int x2, .null] μ Q := wm_vc mo_298 (rt := some .int) (by decide +kernel) mc_298 142 h
-- WindBoatModel.boat(I)I, the place 139
set_option maxRecDepth 100000 in
set_option maxHeartbeats 8000000 in
theorem f_298_139 (μ : wm_M) (Q : Option Value → wm_M → Prop) (h : wm_OkI 0 185 [.ref 89, .int (-7 : Int32)] μ (fun r2 μ1 => Q (some (.int r2)) μ1)) : wm_Wp 0 298 139 [.ref 89, .null, .null, .null] μ Q := wm_vc mo_298 (rt := some .int) (by decide +kernel) mc_298 142 h
-- WindBoatModel.sailed(II)I
set_option maxRecDepth 100000 in
set_option maxHeartbeats 8000000 in
theorem f_299 (a1 : Int32) (a2 : Int32) (μ : wm_M) (Q : Option Value → wm_M → Prop) (h : (((a2 &&& (4 : Int32)) = (0 : Int32) → wm_Wp 0 299 10 [.ref 89, .int a1, .int a2, .null, .null, .null, .null, .null, .null, .null, .null, .null, .null] μ Q) ∧ (¬ (a2 &&& (4 : Int32)) = (0 : Int32) → (((a2 &&& (1 : Int32)) = (0 : Int32) → wm_Wp 0 299 26 [.ref 89, .int a1, .int a2, .int (2 : Int32), .null, .null, .null, .null, .null, .null, .null, .null, .null] μ Q) ∧ (¬ (a2 &&& (1 : Int32)) = (0 : Int32) → (((a2 &&& (2 : Int32)) = (0 : Int32) → wm_OkI 0 188 [.ref 89, .int (12 : Int32)] μ (fun r2 μ1 => wm_OkV 0 250 [.ref 89, .int (6 : Int32), .int (0 : Int32), .int r2] μ1 (fun μ3 => wm_Wp 0 299 52 [.ref 89, .null, .null, .int (2 : Int32), .null, .null, .null, .null, .null, .null, .null, .null, .null] μ3 Q))) ∧ (¬ (a2 &&& (2 : Int32)) = (0 : Int32) → wm_OkI 0 188 [.ref 89, .int (12 : Int32)] μ (fun r5 μ4 => wm_OkV 0 250 [.ref 89, .int (6 : Int32), .int (1 : Int32), .int r5] μ4 (fun μ6 => wm_Wp 0 299 52 [.ref 89, .null, .null, .int (2 : Int32), .null, .null, .null, .null, .null, .null, .null, .null, .null] μ6 Q))))))))) : wm_Ok 0 299 [.ref 89, .int a1, .int a2] μ Q := wm_ent (nL := 13) (l := [.ref 89, .int a1, .int a2, .null, .null, .null, .null, .null, .null, .null, .null, .null, .null]) (by decide +kernel) (by decide +kernel) (by decide +kernel) rfl rfl (wm_vc mo_299 (rt := some .int) (by decide +kernel) mc_299 346 h)
-- WindBoatModel.sailed(II)I, the place 10
set_option maxRecDepth 100000 in
set_option maxHeartbeats 8000000 in
theorem f_299_10 (x1 : Int32) (x2 : Int32) (μ : wm_M) (Q : Option Value → wm_M → Prop) (h : wm_OkI 0 222 [.ref 89] μ (fun r2 μ1 => (((x2 &&& (1 : Int32)) = (0 : Int32) → wm_Wp 0 299 26 [.ref 89, .int x1, .int x2, .int r2, .null, .null, .null, .null, .null, .null, .null, .null, .null] μ1 Q) ∧ (¬ (x2 &&& (1 : Int32)) = (0 : Int32) → (((x2 &&& (2 : Int32)) = (0 : Int32) → wm_OkI 0 188 [.ref 89, .int (12 : Int32)] μ1 (fun r4 μ3 => wm_OkV 0 250 [.ref 89, .int (6 : Int32), .int (0 : Int32), .int r4] μ3 (fun μ5 => wm_Wp 0 299 52 [.ref 89, .null, .null, .int r2, .null, .null, .null, .null, .null, .null, .null, .null, .null] μ5 Q))) ∧ (¬ (x2 &&& (2 : Int32)) = (0 : Int32) → wm_OkI 0 188 [.ref 89, .int (12 : Int32)] μ1 (fun r7 μ6 => wm_OkV 0 250 [.ref 89, .int (6 : Int32), .int (1 : Int32), .int r7] μ6 (fun μ8 => wm_Wp 0 299 52 [.ref 89, .null, .null, .int r2, .null, .null, .null, .null, .null, .null, .null, .null, .null] μ8 Q)))))))) : wm_Wp 0 299 10 [.ref 89, .int x1, .int x2, .null, .null, .null, .null, .null, .null, .null, .null, .null, .null] μ Q := wm_vc mo_299 (rt := some .int) (by decide +kernel) mc_299 346 h
-- WindBoatModel.sailed(II)I, the place 26
set_option maxRecDepth 100000 in
set_option maxHeartbeats 8000000 in
theorem f_299_26 (x1 : Int32) (x2 : Int32) (x3 : Int32) (μ : wm_M) (Q : Option Value → wm_M → Prop) (h : (((x2 &&& (2 : Int32)) = (0 : Int32) → wm_OkI 0 188 [.ref 89, .int (12 : Int32)] μ (fun r2 μ1 => wm_OkV 0 250 [.ref 89, .int x1, .int (0 : Int32), .int r2] μ1 (fun μ3 => wm_Wp 0 299 52 [.ref 89, .null, .null, .int x3, .null, .null, .null, .null, .null, .null, .null, .null, .null] μ3 Q))) ∧ (¬ (x2 &&& (2 : Int32)) = (0 : Int32) → wm_OkI 0 188 [.ref 89, .int (12 : Int32)] μ (fun r5 μ4 => wm_OkV 0 250 [.ref 89, .int x1, .int (1 : Int32), .int r5] μ4 (fun μ6 => wm_Wp 0 299 52 [.ref 89, .null, .null, .int x3, .null, .null, .null, .null, .null, .null, .null, .null, .null] μ6 Q))))) : wm_Wp 0 299 26 [.ref 89, .int x1, .int x2, .int x3, .null, .null, .null, .null, .null, .null, .null, .null, .null] μ Q := wm_vc mo_299 (rt := some .int) (by decide +kernel) mc_299 346 h
-- WindBoatModel.sailed(II)I, the place 52
set_option maxRecDepth 100000 in
set_option maxHeartbeats 8000000 in
theorem f_299_52 (x3 : Int32) (μ : wm_M) (Q : Option Value → wm_M → Prop) (h : wm_OkI 0 188 [.ref 89, .int (11 : Int32)] μ (fun r2 μ1 => wm_OkI 0 188 [.ref 89, .int (12 : Int32)] μ1 (fun r4 μ3 => wm_OkV 0 252 [.ref 89, .int x3, .int r2, .int r4] μ3 (fun μ5 => wm_Wp 0 299 69 [.ref 89, .null, .null, .int x3, .null, .null, .null, .null, .null, .null, .null, .null, .null] μ5 Q)))) : wm_Wp 0 299 52 [.ref 89, .null, .null, .int x3, .null, .null, .null, .null, .null, .null, .null, .null, .null] μ Q := wm_vc mo_299 (rt := some .int) (by decide +kernel) mc_299 346 h
-- WindBoatModel.sailed(II)I, the place 69
set_option maxRecDepth 100000 in
set_option maxHeartbeats 8000000 in
theorem f_299_69 (x3 : Int32) (μ : wm_M) (Q : Option Value → wm_M → Prop) (h : wm_OkI 0 188 [.ref 89, .int (5 : Int32)] μ (fun r2 μ1 => wm_OkI 0 256 [.ref 89, .int x3, .int r2] μ1 (fun r4 μ3 => ((r4 = (0 : Int32) → wm_Wp 0 299 82 [.null, .null, .null, .null, .null, .null, .null, .null, .null, .null, .null, .null, .null] μ3 Q) ∧ (¬ r4 = (0 : Int32) → wm_Wp 0 299 86 [.ref 89, .null, .null, .int x3, .null, .null, .null, .null, .null, .null, .null, .null, .null] μ3 Q))))) : wm_Wp 0 299 69 [.ref 89, .null, .null, .int x3, .null, .null, .null, .null, .null, .null, .null, .null, .null] μ Q := wm_vc mo_299 (rt := some .int) (by decide +kernel) mc_299 346 h
-- WindBoatModel.sailed(II)I, the place 82
set_option maxRecDepth 100000 in
set_option maxHeartbeats 8000000 in
theorem f_299_82 (μ : wm_M) (Q : Option Value → wm_M → Prop) (h : Q (some (.int (999 : Int32))) μ) : wm_Wp 0 299 82 [.null, .null, .null, .null, .null, .null, .null, .null, .null, .null, .null, .null, .null] μ Q := wm_vc mo_299 (rt := some .int) (by decide +kernel) mc_299 346 h
-- WindBoatModel.sailed(II)I, the place 86
set_option maxRecDepth 100000 in
set_option maxHeartbeats 8000000 in
theorem f_299_86 (x3 : Int32) (μ : wm_M) (Q : Option Value → wm_M → Prop) (h : wm_OkI 0 188 [.ref 89, .int (12 : Int32)] μ (fun r2 μ1 => wm_Wp 0 299 94 [.ref 89, .null, .null, .int x3, .null, .int r2, .null, .null, .null, .null, .null, .null, .null] μ1 Q)) : wm_Wp 0 299 86 [.ref 89, .null, .null, .int x3, .null, .null, .null, .null, .null, .null, .null, .null, .null] μ Q := wm_vc mo_299 (rt := some .int) (by decide +kernel) mc_299 346 h
-- WindBoatModel.sailed(II)I, the place 94
set_option maxRecDepth 100000 in
set_option maxHeartbeats 8000000 in
theorem f_299_94 (x3 : Int32) (x5 : Int32) (μ : wm_M) (Q : Option Value → wm_M → Prop) (h : wm_OkI 0 188 [.ref 89, .int (11 : Int32)] μ (fun r2 μ1 => wm_Wp 0 299 102 [.ref 89, .null, .null, .int x3, .null, .int x5, .int r2, .null, .null, .null, .null, .null, .null] μ1 Q)) : wm_Wp 0 299 94 [.ref 89, .null, .null, .int x3, .null, .int x5, .null, .null, .null, .null, .null, .null, .null] μ Q := wm_vc mo_299 (rt := some .int) (by decide +kernel) mc_299 346 h
-- WindBoatModel.sailed(II)I, the place 102
set_option maxRecDepth 100000 in
set_option maxHeartbeats 8000000 in
theorem f_299_102 (x3 : Int32) (x5 : Int32) (x6 : Int32) (μ : wm_M) (Q : Option Value → wm_M → Prop) (h : wm_Wp 0 299 110 [.ref 89, .null, .null, .int x3, .null, .int x5, .int x6, .int ((μ.1 89 27) - (1 : Int32)), .null, .null, .null, .null, .null] μ Q) : wm_Wp 0 299 102 [.ref 89, .null, .null, .int x3, .null, .int x5, .int x6, .null, .null, .null, .null, .null, .null] μ Q := wm_vc mo_299 (rt := some .int) (by decide +kernel) mc_299 346 h
-- WindBoatModel.sailed(II)I, the place 110
set_option maxRecDepth 100000 in
set_option maxHeartbeats 8000000 in
theorem f_299_110 (x3 : Int32) (x5 : Int32) (x6 : Int32) (x7 : Int32) (μ : wm_M) (Q : Option Value → wm_M → Prop) (h : ((x7 < (0 : Int32) → wm_Wp 0 299 294 [.null, .null, .null, .null, .null, .int x5, .null, .null, .null, .null, .null, .null, .null] μ Q) ∧ (¬ x7 < (0 : Int32) → (vp_in x7 121 ∧ (¬ (10 : Int32) = 0 ∧ (vp_in x7 121 ∧ (¬ (10 : Int32) = 0 ∧ wm_Wp 0 299 139 [.ref 89, .null, .null, .int x3, .null, .int x5, .int x6, .int x7, .int ((μ.1 97 (x7).toNatClampNeg) / (10 : Int32)), .int ((μ.1 97 (x7).toNatClampNeg) - (μ.1 97 (x7).toNatClampNeg) / (10 : Int32) * (10 : Int32)), .null, .null, .null] μ Q))))))) : wm_Wp 0 299 110 [.ref 89, .null, .null, .int x3, .null, .int x5, .int x6, .int x7, .null, .null, .null, .null, .null] μ Q := wm_vc mo_299 (rt := some .int) (by decide +kernel) mc_299 346 h
-- WindBoatModel.sailed(II)I, the place 139
set_option maxRecDepth 100000 in
set_option maxHeartbeats 8000000 in
theorem f_299_139 (x3 : Int32) (x5 : Int32) (x6 : Int32) (x7 : Int32) (x8 : Int32) (x9 : Int32) (μ : wm_M) (Q : Option Value → wm_M → Prop) (h : (¬ (24 : Int32) = 0 ∧ (¬ (3 : Int32) = 0 ∧ (¬ (8 : Int32) = 0 ∧ wm_OkI 0 248 [.int x8, .int ((x6 / (3 : Int32)) - (x6 / (3 : Int32)) / (8 : Int32) * (8 : Int32))] μ (fun r2 μ1 => (¬ (3 : Int32) = 0 ∧ ((x9 = (x6 - x6 / (3 : Int32) * (3 : Int32)) → wm_Wp 0 299 193 [.ref 89, .null, .null, .int x3, .null, .int (x5 + (r2 + (0 : Int32))), .null, .int x7, .int x8, .int x9, .int (x6 / (24 : Int32)), .int (((3 : Int32) * (((8 : Int32) * (x6 / (24 : Int32))) + x8)) + x9), .null] μ1 Q) ∧ (¬ x9 = (x6 - x6 / (3 : Int32) * (3 : Int32)) → wm_Wp 0 299 193 [.ref 89, .null, .null, .int x3, .null, .int (x5 + (r2 + x3)), .null, .int x7, .int x8, .int x9, .int (x6 / (24 : Int32)), .int (((3 : Int32) * (((8 : Int32) * (x6 / (24 : Int32))) + x8)) + x9), .null] μ1 Q)))))))) : wm_Wp 0 299 139 [.ref 89, .null, .null, .int x3, .null, .int x5, .int x6, .int x7, .int x8, .int x9, .null, .null, .null] μ Q := wm_vc mo_299 (rt := some .int) (by decide +kernel) mc_299 346 h
-- WindBoatModel.sailed(II)I, the place 193
set_option maxRecDepth 100000 in
set_option maxHeartbeats 8000000 in
theorem f_299_193 (x3 : Int32) (x5 : Int32) (x7 : Int32) (x8 : Int32) (x9 : Int32) (x10 : Int32) (x11 : Int32) (μ : wm_M) (Q : Option Value → wm_M → Prop) (h : wm_Wp 0 299 196 [.ref 89, .null, .null, .int x3, .null, .int x5, .null, .int x7, .int x8, .int x9, .int x10, .int x11, .int (0 : Int32)] μ Q) : wm_Wp 0 299 193 [.ref 89, .null, .null, .int x3, .null, .int x5, .null, .int x7, .int x8, .int x9, .int x10, .int x11, .null] μ Q := wm_vc mo_299 (rt := some .int) (by decide +kernel) mc_299 346 h
-- WindBoatModel.sailed(II)I, the place 196
set_option maxRecDepth 100000 in
set_option maxHeartbeats 8000000 in
theorem f_299_196 (x3 : Int32) (x5 : Int32) (x7 : Int32) (x8 : Int32) (x9 : Int32) (x10 : Int32) (x11 : Int32) (x12 : Int32) (μ : wm_M) (Q : Option Value → wm_M → Prop) (h : ((x12 = (0 : Int32) → (((120 : Int32) ≤ x5 → wm_Wp 0 299 242 [.ref 89, .null, .null, .int x3, .null, .int x5, .null, .int x7, .int x8, .int x9, .int x10, .null, .int x12] μ Q) ∧ (¬ (120 : Int32) ≤ x5 → wm_OkI 0 192 [.int x5] μ (fun r2 μ1 => wm_OkI 0 249 [.ref 89, .int (6 : Int32), .int (1 : Int32), .int x11, .int r2] μ1 (fun r4 μ3 => wm_Wp 0 299 224 [.ref 89, .null, .null, .int x3, .null, .int x5, .null, .int x7, .int x8, .int x9, .int x10, .int x11, .int r4] μ3 Q))))) ∧ (¬ x12 = (0 : Int32) → wm_Wp 0 299 242 [.ref 89, .null, .null, .int x3, .null, .int x5, .null, .int x7, .int x8, .int x9, .int x10, .null, .int x12] μ Q))) : wm_Wp 0 299 196 [.ref 89, .null, .null, .int x3, .null, .int x5, .null, .int x7, .int x8, .int x9, .int x10, .int x11, .int x12] μ Q := wm_vc mo_299 (rt := some .int) (by decide +kernel) mc_299 346 h
-- WindBoatModel.sailed(II)I, the place 224
set_option maxRecDepth 100000 in
set_option maxHeartbeats 8000000 in
theorem f_299_224 (x3 : Int32) (x5 : Int32) (x7 : Int32) (x8 : Int32) (x9 : Int32) (x10 : Int32) (x11 : Int32) (x12 : Int32) (μ : wm_M) (Q : Option Value → wm_M → Prop) (h : ((x12 = (0 : Int32) → wm_Wp 0 299 196 [.ref 89, .null, .null, .int x3, .null, .int (x5 + (1 : Int32)), .null, .int x7, .int x8, .int x9, .int x10, .int x11, .int x12] μ Q) ∧ (¬ x12 = (0 : Int32) → wm_Wp 0 299 196 [.ref 89, .null, .null, .int x3, .null, .int (x5 + (0 : Int32)), .null, .int x7, .int x8, .int x9, .int x10, .int x11, .int x12] μ Q))) : wm_Wp 0 299 224 [.ref 89, .null, .null, .int x3, .null, .int x5, .null, .int x7, .int x8, .int x9, .int x10, .int x11, .int x12] μ Q := wm_vc mo_299 (rt := some .int) (by decide +kernel) mc_299 346 h
-- WindBoatModel.sailed(II)I, the place 242
set_option maxRecDepth 100000 in
set_option maxHeartbeats 8000000 in
theorem f_299_242 (x3 : Int32) (x5 : Int32) (x7 : Int32) (x8 : Int32) (x9 : Int32) (x10 : Int32) (x12 : Int32) (μ : wm_M) (Q : Option Value → wm_M → Prop) (h : ((x12 = (0 : Int32) → wm_Wp 0 299 257 [.null, .null, .null, .null, .null, .null, .null, .null, .null, .null, .null, .null, .null] μ Q) ∧ (¬ x12 = (0 : Int32) → (((x5 + x12) ≤ (120 : Int32) → wm_Wp 0 299 261 [.ref 89, .null, .null, .int x3, .null, .int x5, .null, .int x7, .int x8, .int x9, .int x10, .null, .int x12] μ Q) ∧ (¬ (x5 + x12) ≤ (120 : Int32) → wm_Wp 0 299 257 [.null, .null, .null, .null, .null, .null, .null, .null, .null, .null, .null, .null, .null] μ Q))))) : wm_Wp 0 299 242 [.ref 89, .null, .null, .int x3, .null, .int x5, .null, .int x7, .int x8, .int x9, .int x10, .null, .int x12] μ Q := wm_vc mo_299 (rt := some .int) (by decide +kernel) mc_299 346 h
-- WindBoatModel.sailed(II)I, the place 257
set_option maxRecDepth 100000 in
set_option maxHeartbeats 8000000 in
theorem f_299_257 (μ : wm_M) (Q : Option Value → wm_M → Prop) (h : Q (some (.int (999 : Int32))) μ) : wm_Wp 0 299 257 [.null, .null, .null, .null, .null, .null, .null, .null, .null, .null, .null, .null, .null] μ Q := wm_vc mo_299 (rt := some .int) (by decide +kernel) mc_299 346 h
-- WindBoatModel.sailed(II)I, the place 261
set_option maxRecDepth 100000 in
set_option maxHeartbeats 8000000 in
theorem f_299_261 (x3 : Int32) (x5 : Int32) (x7 : Int32) (x8 : Int32) (x9 : Int32) (x10 : Int32) (x12 : Int32) (μ : wm_M) (Q : Option Value → wm_M → Prop) (h : wm_OkI 0 247 [.int x10, .int x8] μ (fun r2 μ1 => wm_Wp 0 299 288 [.ref 89, .null, .null, .int x3, .null, .int (x5 + x12), .int (((3 : Int32) * (((8 : Int32) * r2) + x8)) + x9), .int x7, .null, .null, .null, .null, .null] μ1 Q)) : wm_Wp 0 299 261 [.ref 89, .null, .null, .int x3, .null, .int x5, .null, .int x7, .int x8, .int x9, .int x10, .null, .int x12] μ Q := wm_vc mo_299 (rt := some .int) (by decide +kernel) mc_299 346 h
-- WindBoatModel.sailed(II)I, the place 288
set_option maxRecDepth 100000 in
set_option maxHeartbeats 8000000 in
theorem f_299_288 (x3 : Int32) (x5 : Int32) (x6 : Int32) (x7 : Int32) (μ : wm_M) (Q : Option Value → wm_M → Prop) (h : wm_Wp 0 299 110 [.ref 89, .null, .null, .int x3, .null, .int x5, .int x6, .int (x7 + (-1 : Int32)), .null, .null, .null, .null, .null] μ Q) : wm_Wp 0 299 288 [.ref 89, .null, .null, .int x3, .null, .int x5, .int x6, .int x7, .null, .null, .null, .null, .null] μ Q := wm_vc mo_299 (rt := some .int) (by decide +kernel) mc_299 346 h
-- WindBoatModel.sailed(II)I, the place 294
set_option maxRecDepth 100000 in
set_option maxHeartbeats 8000000 in
theorem f_299_294 (x5 : Int32) (μ : wm_M) (Q : Option Value → wm_M → Prop) (h : Q (some (.int x5)) μ) : wm_Wp 0 299 294 [.null, .null, .null, .null, .null, .int x5, .null, .null, .null, .null, .null, .null, .null] μ Q := wm_vc mo_299 (rt := some .int) (by decide +kernel) mc_299 346 h
-- WindBoatModel.shareOf(I)I
set_option maxRecDepth 100000 in
set_option maxHeartbeats 8000000 in
theorem f_300 (a1 : Int32) (μ : wm_M) (Q : Option Value → wm_M → Prop) (h : (¬ (3 : Int32) = 0 ∧ (¬ (3 : Int32) = 0 ∧ wm_Wp 0 300 16 [.ref 89, .int a1, .int ((1 : Int32) <<< (((a1 + (1 : Int32)) - (a1 + (1 : Int32)) / (3 : Int32) * (3 : Int32)) &&& 31)), .int ((1 : Int32) <<< (((a1 + (2 : Int32)) - (a1 + (2 : Int32)) / (3 : Int32) * (3 : Int32)) &&& 31)), .null] μ Q))) : wm_Ok 0 300 [.ref 89, .int a1] μ Q := wm_ent (nL := 5) (l := [.ref 89, .int a1, .null, .null, .null]) (by decide +kernel) (by decide +kernel) (by decide +kernel) rfl rfl (wm_vc mo_300 (rt := some .int) (by decide +kernel) mc_300 160 h)
-- WindBoatModel.shareOf(I)I, the place 16
set_option maxRecDepth 100000 in
set_option maxHeartbeats 8000000 in
theorem f_300_16 (x1 : Int32) (x2 : Int32) (x3 : Int32) (μ : wm_M) (Q : Option Value → wm_M → Prop) (h : (vp_in (0 : Int32) 8 ∧ (vp_in ((1 : Int32) <<< (x1 &&& 31)) 8 ∧ (vp_in x2 8 ∧ (vp_in (x2 ||| ((1 : Int32) <<< (x1 &&& 31))) 8 ∧ (vp_in x3 8 ∧ (vp_in (x3 ||| ((1 : Int32) <<< (x1 &&& 31))) 8 ∧ (vp_in (x2 ||| x3) 8 ∧ (vp_in (7 : Int32) 8 ∧ Q (some (.int (((((((2 : Int32) * ((μ.1 109 ((0 : Int32)).toNatClampNeg) - (μ.1 109 (((1 : Int32) <<< (x1 &&& 31))).toNatClampNeg))) + (μ.1 109 (x2).toNatClampNeg)) - (μ.1 109 ((x2 ||| ((1 : Int32) <<< (x1 &&& 31)))).toNatClampNeg)) + (μ.1 109 (x3).toNatClampNeg)) - (μ.1 109 ((x3 ||| ((1 : Int32) <<< (x1 &&& 31)))).toNatClampNeg)) + ((2 : Int32) * ((μ.1 109 ((x2 ||| x3)).toNatClampNeg) - (μ.1 109 ((7 : Int32)).toNatClampNeg)))))) μ))))))))) : wm_Wp 0 300 16 [.ref 89, .int x1, .int x2, .int x3, .null] μ Q := wm_vc mo_300 (rt := some .int) (by decide +kernel) mc_300 160 h
-- WindBoatModel.lost(II)I
set_option maxRecDepth 100000 in
set_option maxHeartbeats 8000000 in
theorem f_301 (a1 : Int32) (a2 : Int32) (μ : wm_M) (Q : Option Value → wm_M → Prop) (h : wm_OkI 0 188 [.ref 89, .int (6 : Int32)] μ (fun r2 μ1 => ((r2 = (0 : Int32) → wm_Wp 0 301 9 [.ref 89, .null, .null, .null] μ1 Q) ∧ (¬ r2 = (0 : Int32) → wm_Wp 0 301 16 [.ref 89, .int a1, .int a2, .null] μ1 Q)))) : wm_Ok 0 301 [.ref 89, .int a1, .int a2] μ Q := wm_ent (nL := 4) (l := [.ref 89, .int a1, .int a2, .null]) (by decide +kernel) (by decide +kernel) (by decide +kernel) rfl rfl (wm_vc mo_301 (rt := some .int) (by decide +kernel) mc_301 148 h)
-- WindBoatModel.lost(II)I, the place 9
set_option maxRecDepth 100000 in
set_option maxHeartbeats 8000000 in
theorem f_301_9 (μ : wm_M) (Q : Option Value → wm_M → Prop) (h : wm_OkI 0 185 [.ref 89, .int (-2 : Int32)] μ (fun r2 μ1 => Q (some (.int r2)) μ1)) : wm_Wp 0 301 9 [.ref 89, .null, .null, .null] μ Q := wm_vc mo_301 (rt := some .int) (by decide +kernel) mc_301 148 h
-- WindBoatModel.lost(II)I, the place 16
set_option maxRecDepth 100000 in
set_option maxHeartbeats 8000000 in
theorem f_301_16 (x1 : Int32) (x2 : Int32) (μ : wm_M) (Q : Option Value → wm_M → Prop) (h : wm_OkI 0 262 [.int x1] μ (fun r2 μ1 => ((r2 = (0 : Int32) → wm_Wp 0 301 23 [.ref 89, .null, .null, .null] μ1 Q) ∧ (¬ r2 = (0 : Int32) → wm_Wp 0 301 30 [.ref 89, .int x1, .int x2, .null] μ1 Q)))) : wm_Wp 0 301 16 [.ref 89, .int x1, .int x2, .null] μ Q := wm_vc mo_301 (rt := some .int) (by decide +kernel) mc_301 148 h
-- WindBoatModel.lost(II)I, the place 23
set_option maxRecDepth 100000 in
set_option maxHeartbeats 8000000 in
theorem f_301_23 (μ : wm_M) (Q : Option Value → wm_M → Prop) (h : wm_OkI 0 185 [.ref 89, .int (-3 : Int32)] μ (fun r2 μ1 => Q (some (.int r2)) μ1)) : wm_Wp 0 301 23 [.ref 89, .null, .null, .null] μ Q := wm_vc mo_301 (rt := some .int) (by decide +kernel) mc_301 148 h
-- WindBoatModel.lost(II)I, the place 30
set_option maxRecDepth 100000 in
set_option maxHeartbeats 8000000 in
theorem f_301_30 (x1 : Int32) (x2 : Int32) (μ : wm_M) (Q : Option Value → wm_M → Prop) (h : wm_OkI 0 184 [.int x2, .int (0 : Int32), .int (4 : Int32)] μ (fun r2 μ1 => ((r2 = (0 : Int32) → wm_Wp 0 301 39 [.ref 89, .null, .null, .null] μ1 Q) ∧ (¬ r2 = (0 : Int32) → wm_Wp 0 301 46 [.ref 89, .int x1, .int x2, .null] μ1 Q)))) : wm_Wp 0 301 30 [.ref 89, .int x1, .int x2, .null] μ Q := wm_vc mo_301 (rt := some .int) (by decide +kernel) mc_301 148 h
-- WindBoatModel.lost(II)I, the place 39
set_option maxRecDepth 100000 in
set_option maxHeartbeats 8000000 in
theorem f_301_39 (μ : wm_M) (Q : Option Value → wm_M → Prop) (h : wm_OkI 0 185 [.ref 89, .int (-7 : Int32)] μ (fun r2 μ1 => Q (some (.int r2)) μ1)) : wm_Wp 0 301 39 [.ref 89, .null, .null, .null] μ Q := wm_vc mo_301 (rt := some .int) (by decide +kernel) mc_301 148 h
-- WindBoatModel.lost(II)I, the place 46
set_option maxRecDepth 100000 in
set_option maxHeartbeats 8000000 in
theorem f_301_46 (x1 : Int32) (x2 : Int32) (μ : wm_M) (Q : Option Value → wm_M → Prop) (h : wm_OkI 0 188 [.ref 89, .int (12 : Int32)] μ (fun r2 μ1 => wm_OkV 0 246 [.ref 89, .int r2] μ1 (fun μ3 => wm_Wp 0 301 56 [.ref 89, .int x1, .int x2, .null] μ3 Q))) : wm_Wp 0 301 46 [.ref 89, .int x1, .int x2, .null] μ Q := wm_vc mo_301 (rt := some .int) (by decide +kernel) mc_301 148 h
-- WindBoatModel.lost(II)I, the place 56
set_option maxRecDepth 100000 in
set_option maxHeartbeats 8000000 in
theorem f_301_56 (x1 : Int32) (x2 : Int32) (μ : wm_M) (Q : Option Value → wm_M → Prop) (h : wm_Wp 0 301 58 [.ref 89, .int x1, .int x2, .int (0 : Int32)] μ Q) : wm_Wp 0 301 56 [.ref 89, .int x1, .int x2, .null] μ Q := wm_vc mo_301 (rt := some .int) (by decide +kernel) mc_301 148 h
-- WindBoatModel.lost(II)I, the place 58
set_option maxRecDepth 100000 in
set_option maxHeartbeats 8000000 in
theorem f_301_58 (x1 : Int32) (x2 : Int32) (x3 : Int32) (μ : wm_M) (Q : Option Value → wm_M → Prop) (h : (((8 : Int32) ≤ x3 → wm_Wp 0 301 82 [.ref 89, .null, .int x2, .null] μ Q) ∧ (¬ (8 : Int32) ≤ x3 → wm_OkI 0 299 [.ref 89, .int x1, .int x3] μ (fun r2 μ1 => (vp_in x3 8 ∧ wm_Wp 0 301 76 [.ref 89, .int x1, .int x2, .int x3] (wm_si μ1 109 (x3).toNatClampNeg r2) Q))))) : wm_Wp 0 301 58 [.ref 89, .int x1, .int x2, .int x3] μ Q := wm_vc mo_301 (rt := some .int) (by decide +kernel) mc_301 148 h
-- WindBoatModel.lost(II)I, the place 76
set_option maxRecDepth 100000 in
set_option maxHeartbeats 8000000 in
theorem f_301_76 (x1 : Int32) (x2 : Int32) (x3 : Int32) (μ : wm_M) (Q : Option Value → wm_M → Prop) (h : wm_Wp 0 301 58 [.ref 89, .int x1, .int x2, .int (x3 + (1 : Int32))] μ Q) : wm_Wp 0 301 76 [.ref 89, .int x1, .int x2, .int x3] μ Q := wm_vc mo_301 (rt := some .int) (by decide +kernel) mc_301 148 h
-- WindBoatModel.lost(II)I, the place 82
set_option maxRecDepth 100000 in
set_option maxHeartbeats 8000000 in
theorem f_301_82 (x2 : Int32) (μ : wm_M) (Q : Option Value → wm_M → Prop) (h : ((x2 = (3 : Int32) → (vp_in (0 : Int32) 8 ∧ Q (some (.int (μ.1 109 ((0 : Int32)).toNatClampNeg))) μ)) ∧ (¬ x2 = (3 : Int32) → wm_Wp 0 301 96 [.ref 89, .null, .int x2, .null] μ Q))) : wm_Wp 0 301 82 [.ref 89, .null, .int x2, .null] μ Q := wm_vc mo_301 (rt := some .int) (by decide +kernel) mc_301 148 h
-- WindBoatModel.lost(II)I, the place 96
set_option maxRecDepth 100000 in
set_option maxHeartbeats 8000000 in
theorem f_301_96 (x2 : Int32) (μ : wm_M) (Q : Option Value → wm_M → Prop) (h : ((x2 = (4 : Int32) → (vp_in (7 : Int32) 8 ∧ Q (some (.int (μ.1 109 ((7 : Int32)).toNatClampNeg))) μ)) ∧ (¬ x2 = (4 : Int32) → wm_Wp 0 301 111 [.ref 89, .null, .int x2, .null] μ Q))) : wm_Wp 0 301 96 [.ref 89, .null, .int x2, .null] μ Q := wm_vc mo_301 (rt := some .int) (by decide +kernel) mc_301 148 h
-- WindBoatModel.lost(II)I, the place 111
set_option maxRecDepth 100000 in
set_option maxHeartbeats 8000000 in
theorem f_301_111 (x2 : Int32) (μ : wm_M) (Q : Option Value → wm_M → Prop) (h : wm_OkI 0 300 [.ref 89, .int x2] μ (fun r2 μ1 => Q (some (.int r2)) μ1)) : wm_Wp 0 301 111 [.ref 89, .null, .int x2, .null] μ Q := wm_vc mo_301 (rt := some .int) (by decide +kernel) mc_301 148 h
-- WindBoatModel.count(I)I
set_option maxRecDepth 100000 in
set_option maxHeartbeats 8000000 in
theorem f_302 (a1 : Int32) (μ : wm_M) (Q : Option Value → wm_M → Prop) (h : (((a1).toInt < 0 ∨ 11 < (a1).toInt → wm_Wp 0 302 256 [.ref 89, .null, .null, .null] μ Q) ∧ (((a1).toInt = 0 → wm_Wp 0 302 64 [.ref 89, .null, .int (0 : Int32), .null] μ Q) ∧ (((a1).toInt = 1 → wm_Wp 0 302 91 [.ref 89, .null, .int (0 : Int32), .null] μ Q) ∧ (((a1).toInt = 2 → wm_Wp 0 302 120 [.ref 89, .null, .null, .null] μ Q) ∧ (((a1).toInt = 3 → wm_Wp 0 302 126 [.ref 89, .null, .int (0 : Int32), .null] μ Q) ∧ (((a1).toInt = 4 → wm_Wp 0 302 158 [.ref 89, .null, .null, .null] μ Q) ∧ (((a1).toInt = 5 → wm_Wp 0 302 164 [.ref 89, .null, .null, .null] μ Q) ∧ (((a1).toInt = 6 → wm_Wp 0 302 170 [.ref 89, .null, .null, .null] μ Q) ∧ (((a1).toInt = 7 → wm_Wp 0 302 175 [.ref 89, .null, .int (0 : Int32), .null] μ Q) ∧ (((a1).toInt = 8 → wm_Wp 0 302 204 [.ref 89, .null, .int (0 : Int32), .null] μ Q) ∧ (((a1).toInt = 9 → wm_Wp 0 302 236 [.ref 89, .null, .null, .null] μ Q) ∧ (((a1).toInt = 10 → wm_Wp 0 302 243 [.ref 89, .null, .null, .null] μ Q) ∧ (((a1).toInt = 11 → wm_Wp 0 302 249 [.ref 89, .null, .null, .null] μ Q) ∧ True)))))))))))))) : wm_Ok 0 302 [.ref 89, .int a1] μ Q := wm_ent (nL := 4) (l := [.ref 89, .int a1, .null, .null]) (by decide +kernel) (by decide +kernel) (by decide +kernel) rfl rfl (wm_vc mo_302 (rt := some .int) (by decide +kernel) mc_302 276 h)
-- WindBoatModel.count(I)I, the place 64
set_option maxRecDepth 100000 in
set_option maxHeartbeats 8000000 in
theorem f_302_64 (x2 : Int32) (μ : wm_M) (Q : Option Value → wm_M → Prop) (h : wm_Wp 0 302 66 [.ref 89, .null, .int x2, .int (0 : Int32)] μ Q) : wm_Wp 0 302 64 [.ref 89, .null, .int x2, .null] μ Q := wm_vc mo_302 (rt := some .int) (by decide +kernel) mc_302 276 h
-- WindBoatModel.count(I)I, the place 66
set_option maxRecDepth 100000 in
set_option maxHeartbeats 8000000 in
theorem f_302_66 (x2 : Int32) (x3 : Int32) (μ : wm_M) (Q : Option Value → wm_M → Prop) (h : (((36 : Int32) ≤ x3 → wm_Wp 0 302 89 [.null, .null, .int x2, .null] μ Q) ∧ (¬ (36 : Int32) ≤ x3 → (vp_in ((0 : Int32) + x3) 2060 ∧ wm_Wp 0 302 83 [.ref 89, .null, .int (x2 + (μ.1 91 (((0 : Int32) + x3)).toNatClampNeg)), .int x3] μ Q)))) : wm_Wp 0 302 66 [.ref 89, .null, .int x2, .int x3] μ Q := wm_vc mo_302 (rt := some .int) (by decide +kernel) mc_302 276 h
-- WindBoatModel.count(I)I, the place 83
set_option maxRecDepth 100000 in
set_option maxHeartbeats 8000000 in
theorem f_302_83 (x2 : Int32) (x3 : Int32) (μ : wm_M) (Q : Option Value → wm_M → Prop) (h : wm_Wp 0 302 66 [.ref 89, .null, .int x2, .int (x3 + (1 : Int32))] μ Q) : wm_Wp 0 302 83 [.ref 89, .null, .int x2, .int x3] μ Q := wm_vc mo_302 (rt := some .int) (by decide +kernel) mc_302 276 h
-- WindBoatModel.count(I)I, the place 89
set_option maxRecDepth 100000 in
set_option maxHeartbeats 8000000 in
theorem f_302_89 (x2 : Int32) (μ : wm_M) (Q : Option Value → wm_M → Prop) (h : Q (some (.int x2)) μ) : wm_Wp 0 302 89 [.null, .null, .int x2, .null] μ Q := wm_vc mo_302 (rt := some .int) (by decide +kernel) mc_302 276 h
-- WindBoatModel.count(I)I, the place 91
set_option maxRecDepth 100000 in
set_option maxHeartbeats 8000000 in
theorem f_302_91 (x2 : Int32) (μ : wm_M) (Q : Option Value → wm_M → Prop) (h : wm_Wp 0 302 93 [.ref 89, .null, .int x2, .int (0 : Int32)] μ Q) : wm_Wp 0 302 91 [.ref 89, .null, .int x2, .null] μ Q := wm_vc mo_302 (rt := some .int) (by decide +kernel) mc_302 276 h
-- WindBoatModel.count(I)I, the place 93
set_option maxRecDepth 100000 in
set_option maxHeartbeats 8000000 in
theorem f_302_93 (x2 : Int32) (x3 : Int32) (μ : wm_M) (Q : Option Value → wm_M → Prop) (h : (((84 : Int32) ≤ x3 → wm_Wp 0 302 118 [.null, .null, .int x2, .null] μ Q) ∧ (¬ (84 : Int32) ≤ x3 → (vp_in ((240 : Int32) + x3) 2060 ∧ wm_Wp 0 302 112 [.ref 89, .null, .int (x2 + (μ.1 91 (((240 : Int32) + x3)).toNatClampNeg)), .int x3] μ Q)))) : wm_Wp 0 302 93 [.ref 89, .null, .int x2, .int x3] μ Q := wm_vc mo_302 (rt := some .int) (by decide +kernel) mc_302 276 h
-- WindBoatModel.count(I)I, the place 112
set_option maxRecDepth 100000 in
set_option maxHeartbeats 8000000 in
theorem f_302_112 (x2 : Int32) (x3 : Int32) (μ : wm_M) (Q : Option Value → wm_M → Prop) (h : wm_Wp 0 302 93 [.ref 89, .null, .int x2, .int (x3 + (1 : Int32))] μ Q) : wm_Wp 0 302 112 [.ref 89, .null, .int x2, .int x3] μ Q := wm_vc mo_302 (rt := some .int) (by decide +kernel) mc_302 276 h
-- WindBoatModel.count(I)I, the place 118
set_option maxRecDepth 100000 in
set_option maxHeartbeats 8000000 in
theorem f_302_118 (x2 : Int32) (μ : wm_M) (Q : Option Value → wm_M → Prop) (h : Q (some (.int x2)) μ) : wm_Wp 0 302 118 [.null, .null, .int x2, .null] μ Q := wm_vc mo_302 (rt := some .int) (by decide +kernel) mc_302 276 h
-- WindBoatModel.count(I)I, the place 120
set_option maxRecDepth 100000 in
set_option maxHeartbeats 8000000 in
theorem f_302_120 (μ : wm_M) (Q : Option Value → wm_M → Prop) (h : wm_OkI 0 188 [.ref 89, .int (0 : Int32)] μ (fun r2 μ1 => Q (some (.int r2)) μ1)) : wm_Wp 0 302 120 [.ref 89, .null, .null, .null] μ Q := wm_vc mo_302 (rt := some .int) (by decide +kernel) mc_302 276 h
-- WindBoatModel.count(I)I, the place 126
set_option maxRecDepth 100000 in
set_option maxHeartbeats 8000000 in
theorem f_302_126 (x2 : Int32) (μ : wm_M) (Q : Option Value → wm_M → Prop) (h : wm_Wp 0 302 128 [.ref 89, .null, .int x2, .int (0 : Int32)] μ Q) : wm_Wp 0 302 126 [.ref 89, .null, .int x2, .null] μ Q := wm_vc mo_302 (rt := some .int) (by decide +kernel) mc_302 276 h
-- WindBoatModel.count(I)I, the place 128
set_option maxRecDepth 100000 in
set_option maxHeartbeats 8000000 in
theorem f_302_128 (x2 : Int32) (x3 : Int32) (μ : wm_M) (Q : Option Value → wm_M → Prop) (h : wm_OkI 0 188 [.ref 89, .int (0 : Int32)] μ (fun r2 μ1 => ((r2 ≤ x3 → wm_Wp 0 302 156 [.null, .null, .int x2, .null] μ1 Q) ∧ (¬ r2 ≤ x3 → wm_Wp 0 302 137 [.ref 89, .null, .int x2, .int x3] μ1 Q)))) : wm_Wp 0 302 128 [.ref 89, .null, .int x2, .int x3] μ Q := wm_vc mo_302 (rt := some .int) (by decide +kernel) mc_302 276 h
-- WindBoatModel.count(I)I, the place 137
set_option maxRecDepth 100000 in
set_option maxHeartbeats 8000000 in
theorem f_302_137 (x2 : Int32) (x3 : Int32) (μ : wm_M) (Q : Option Value → wm_M → Prop) (h : (vp_in ((452 : Int32) + x3) 2060 ∧ wm_Wp 0 302 128 [.ref 89, .null, .int (x2 + (μ.1 91 (((452 : Int32) + x3)).toNatClampNeg)), .int (x3 + (1 : Int32))] μ Q)) : wm_Wp 0 302 137 [.ref 89, .null, .int x2, .int x3] μ Q := wm_vc mo_302 (rt := some .int) (by decide +kernel) mc_302 276 h
-- WindBoatModel.count(I)I, the place 156
set_option maxRecDepth 100000 in
set_option maxHeartbeats 8000000 in
theorem f_302_156 (x2 : Int32) (μ : wm_M) (Q : Option Value → wm_M → Prop) (h : Q (some (.int x2)) μ) : wm_Wp 0 302 156 [.null, .null, .int x2, .null] μ Q := wm_vc mo_302 (rt := some .int) (by decide +kernel) mc_302 276 h
-- WindBoatModel.count(I)I, the place 158
set_option maxRecDepth 100000 in
set_option maxHeartbeats 8000000 in
theorem f_302_158 (μ : wm_M) (Q : Option Value → wm_M → Prop) (h : wm_OkI 0 188 [.ref 89, .int (1 : Int32)] μ (fun r2 μ1 => Q (some (.int r2)) μ1)) : wm_Wp 0 302 158 [.ref 89, .null, .null, .null] μ Q := wm_vc mo_302 (rt := some .int) (by decide +kernel) mc_302 276 h
-- WindBoatModel.count(I)I, the place 164
set_option maxRecDepth 100000 in
set_option maxHeartbeats 8000000 in
theorem f_302_164 (μ : wm_M) (Q : Option Value → wm_M → Prop) (h : wm_OkI 0 188 [.ref 89, .int (2 : Int32)] μ (fun r2 μ1 => Q (some (.int r2)) μ1)) : wm_Wp 0 302 164 [.ref 89, .null, .null, .null] μ Q := wm_vc mo_302 (rt := some .int) (by decide +kernel) mc_302 276 h
-- WindBoatModel.count(I)I, the place 170
set_option maxRecDepth 100000 in
set_option maxHeartbeats 8000000 in
theorem f_302_170 (μ : wm_M) (Q : Option Value → wm_M → Prop) (h : Q (some (.int (μ.1 89 4))) μ) : wm_Wp 0 302 170 [.ref 89, .null, .null, .null] μ Q := wm_vc mo_302 (rt := some .int) (by decide +kernel) mc_302 276 h
-- WindBoatModel.count(I)I, the place 175
set_option maxRecDepth 100000 in
set_option maxHeartbeats 8000000 in
theorem f_302_175 (x2 : Int32) (μ : wm_M) (Q : Option Value → wm_M → Prop) (h : wm_Wp 0 302 177 [.ref 89, .null, .int x2, .int (0 : Int32)] μ Q) : wm_Wp 0 302 175 [.ref 89, .null, .int x2, .null] μ Q := wm_vc mo_302 (rt := some .int) (by decide +kernel) mc_302 276 h
-- WindBoatModel.count(I)I, the place 177
set_option maxRecDepth 100000 in
set_option maxHeartbeats 8000000 in
theorem f_302_177 (x2 : Int32) (x3 : Int32) (μ : wm_M) (Q : Option Value → wm_M → Prop) (h : (((25 : Int32) ≤ x3 → wm_Wp 0 302 202 [.null, .null, .int x2, .null] μ Q) ∧ (¬ (25 : Int32) ≤ x3 → (vp_in ((349 : Int32) + x3) 2060 ∧ wm_Wp 0 302 196 [.ref 89, .null, .int (x2 + (μ.1 91 (((349 : Int32) + x3)).toNatClampNeg)), .int x3] μ Q)))) : wm_Wp 0 302 177 [.ref 89, .null, .int x2, .int x3] μ Q := wm_vc mo_302 (rt := some .int) (by decide +kernel) mc_302 276 h
-- WindBoatModel.count(I)I, the place 196
set_option maxRecDepth 100000 in
set_option maxHeartbeats 8000000 in
theorem f_302_196 (x2 : Int32) (x3 : Int32) (μ : wm_M) (Q : Option Value → wm_M → Prop) (h : wm_Wp 0 302 177 [.ref 89, .null, .int x2, .int (x3 + (1 : Int32))] μ Q) : wm_Wp 0 302 196 [.ref 89, .null, .int x2, .int x3] μ Q := wm_vc mo_302 (rt := some .int) (by decide +kernel) mc_302 276 h
-- WindBoatModel.count(I)I, the place 202
set_option maxRecDepth 100000 in
set_option maxHeartbeats 8000000 in
theorem f_302_202 (x2 : Int32) (μ : wm_M) (Q : Option Value → wm_M → Prop) (h : Q (some (.int x2)) μ) : wm_Wp 0 302 202 [.null, .null, .int x2, .null] μ Q := wm_vc mo_302 (rt := some .int) (by decide +kernel) mc_302 276 h
-- WindBoatModel.count(I)I, the place 204
set_option maxRecDepth 100000 in
set_option maxHeartbeats 8000000 in
theorem f_302_204 (x2 : Int32) (μ : wm_M) (Q : Option Value → wm_M → Prop) (h : wm_Wp 0 302 206 [.ref 89, .null, .int x2, .int (0 : Int32)] μ Q) : wm_Wp 0 302 204 [.ref 89, .null, .int x2, .null] μ Q := wm_vc mo_302 (rt := some .int) (by decide +kernel) mc_302 276 h
-- WindBoatModel.count(I)I, the place 206
set_option maxRecDepth 100000 in
set_option maxHeartbeats 8000000 in
theorem f_302_206 (x2 : Int32) (x3 : Int32) (μ : wm_M) (Q : Option Value → wm_M → Prop) (h : (((6 : Int32) ≤ x3 → wm_Wp 0 302 234 [.null, .null, .int x2, .null] μ Q) ∧ (¬ (6 : Int32) ≤ x3 → wm_OkI 0 266 [.ref 89, .int x3] μ (fun r2 μ1 => ((r2 = (0 : Int32) → wm_Wp 0 302 206 [.ref 89, .null, .int (x2 + (0 : Int32)), .int (x3 + (1 : Int32))] μ1 Q) ∧ (¬ r2 = (0 : Int32) → wm_Wp 0 302 206 [.ref 89, .null, .int (x2 + (1 : Int32)), .int (x3 + (1 : Int32))] μ1 Q)))))) : wm_Wp 0 302 206 [.ref 89, .null, .int x2, .int x3] μ Q := wm_vc mo_302 (rt := some .int) (by decide +kernel) mc_302 276 h
-- WindBoatModel.count(I)I, the place 234
set_option maxRecDepth 100000 in
set_option maxHeartbeats 8000000 in
theorem f_302_234 (x2 : Int32) (μ : wm_M) (Q : Option Value → wm_M → Prop) (h : Q (some (.int x2)) μ) : wm_Wp 0 302 234 [.null, .null, .int x2, .null] μ Q := wm_vc mo_302 (rt := some .int) (by decide +kernel) mc_302 276 h
-- WindBoatModel.count(I)I, the place 236
set_option maxRecDepth 100000 in
set_option maxHeartbeats 8000000 in
theorem f_302_236 (μ : wm_M) (Q : Option Value → wm_M → Prop) (h : wm_OkI 0 188 [.ref 89, .int (13 : Int32)] μ (fun r2 μ1 => Q (some (.int r2)) μ1)) : wm_Wp 0 302 236 [.ref 89, .null, .null, .null] μ Q := wm_vc mo_302 (rt := some .int) (by decide +kernel) mc_302 276 h
-- WindBoatModel.count(I)I, the place 243
set_option maxRecDepth 100000 in
set_option maxHeartbeats 8000000 in
theorem f_302_243 (μ : wm_M) (Q : Option Value → wm_M → Prop) (h : wm_OkI 0 188 [.ref 89, .int (5 : Int32)] μ (fun r2 μ1 => Q (some (.int r2)) μ1)) : wm_Wp 0 302 243 [.ref 89, .null, .null, .null] μ Q := wm_vc mo_302 (rt := some .int) (by decide +kernel) mc_302 276 h
-- WindBoatModel.count(I)I, the place 249
set_option maxRecDepth 100000 in
set_option maxHeartbeats 8000000 in
theorem f_302_249 (μ : wm_M) (Q : Option Value → wm_M → Prop) (h : wm_OkI 0 188 [.ref 89, .int (6 : Int32)] μ (fun r2 μ1 => Q (some (.int r2)) μ1)) : wm_Wp 0 302 249 [.ref 89, .null, .null, .null] μ Q := wm_vc mo_302 (rt := some .int) (by decide +kernel) mc_302 276 h
-- WindBoatModel.count(I)I, the place 256
set_option maxRecDepth 100000 in
set_option maxHeartbeats 8000000 in
theorem f_302_256 (μ : wm_M) (Q : Option Value → wm_M → Prop) (h : wm_OkI 0 186 [.ref 89, .int (-7 : Int32)] μ (fun r2 μ1 => Q (some (.int r2)) μ1)) : wm_Wp 0 302 256 [.ref 89, .null, .null, .null] μ Q := wm_vc mo_302 (rt := some .int) (by decide +kernel) mc_302 276 h
-- WindBoatModel.image()I
set_option maxRecDepth 100000 in
set_option maxHeartbeats 8000000 in
theorem f_303 (μ : wm_M) (Q : Option Value → wm_M → Prop) (h : wm_Wp 0 303 2 [.ref 89, .int (0 : Int32)] μ Q) : wm_Ok 0 303 [.ref 89] μ Q := wm_ent (nL := 2) (l := [.ref 89, .null]) (by decide +kernel) (by decide +kernel) (by decide +kernel) rfl rfl (wm_vc mo_303 (rt := some .int) (by decide +kernel) mc_303 78 h)
-- WindBoatModel.image()I, the place 2
set_option maxRecDepth 100000 in
set_option maxHeartbeats 8000000 in
theorem f_303_2 (x1 : Int32) (μ : wm_M) (Q : Option Value → wm_M → Prop) (h : (((2060 : Int32) ≤ x1 → wm_Wp 0 303 27 [.ref 89, .null] μ Q) ∧ (¬ (2060 : Int32) ≤ x1 → (vp_in x1 2060 ∧ (vp_in x1 2060 ∧ wm_Wp 0 303 21 [.ref 89, .int x1] (wm_si μ 110 (x1).toNatClampNeg (μ.1 91 (x1).toNatClampNeg)) Q))))) : wm_Wp 0 303 2 [.ref 89, .int x1] μ Q := wm_vc mo_303 (rt := some .int) (by decide +kernel) mc_303 78 h
-- WindBoatModel.image()I, the place 21
set_option maxRecDepth 100000 in
set_option maxHeartbeats 8000000 in
theorem f_303_21 (x1 : Int32) (μ : wm_M) (Q : Option Value → wm_M → Prop) (h : wm_Wp 0 303 2 [.ref 89, .int (x1 + (1 : Int32))] μ Q) : wm_Wp 0 303 21 [.ref 89, .int x1] μ Q := wm_vc mo_303 (rt := some .int) (by decide +kernel) mc_303 78 h
-- WindBoatModel.image()I, the place 27
set_option maxRecDepth 100000 in
set_option maxHeartbeats 8000000 in
theorem f_303_27 (μ : wm_M) (Q : Option Value → wm_M → Prop) (h : (((1 : Int32) = 0 ∨ (1 : Int32) = 1) ∧ wm_Wp 0 303 32 [.ref 89, .null] (wm_si μ 89 46 (1 : Int32)) Q)) : wm_Wp 0 303 27 [.ref 89, .null] μ Q := wm_vc mo_303 (rt := some .int) (by decide +kernel) mc_303 78 h
-- WindBoatModel.image()I, the place 32
set_option maxRecDepth 100000 in
set_option maxHeartbeats 8000000 in
theorem f_303_32 (μ : wm_M) (Q : Option Value → wm_M → Prop) (h : wm_OkI 0 188 [.ref 89, .int (6 : Int32)] μ (fun r2 μ1 => ((r2 = (1 : Int32) → wm_Wp 0 303 42 [.ref 89, .null] μ1 Q) ∧ (¬ r2 = (1 : Int32) → wm_Wp 0 303 51 [.null, .null] μ1 Q)))) : wm_Wp 0 303 32 [.ref 89, .null] μ Q := wm_vc mo_303 (rt := some .int) (by decide +kernel) mc_303 78 h
-- WindBoatModel.image()I, the place 42
set_option maxRecDepth 100000 in
set_option maxHeartbeats 8000000 in
theorem f_303_42 (μ : wm_M) (Q : Option Value → wm_M → Prop) (h : wm_OkI 0 188 [.ref 89, .int (10 : Int32)] μ (fun r2 μ1 => Q (some (.int r2)) μ1)) : wm_Wp 0 303 42 [.ref 89, .null] μ Q := wm_vc mo_303 (rt := some .int) (by decide +kernel) mc_303 78 h
-- WindBoatModel.image()I, the place 51
set_option maxRecDepth 100000 in
set_option maxHeartbeats 8000000 in
theorem f_303_51 (μ : wm_M) (Q : Option Value → wm_M → Prop) (h : Q (some (.int (0 : Int32))) μ) : wm_Wp 0 303 51 [.null, .null] μ Q := wm_vc mo_303 (rt := some .int) (by decide +kernel) mc_303 78 h
-- WindBoatModel.back()I
set_option maxRecDepth 100000 in
set_option maxHeartbeats 8000000 in
theorem f_304 (μ : wm_M) (Q : Option Value → wm_M → Prop) (h : (((μ.1 89 46) = (0 : Int32) → wm_OkI 0 185 [.ref 89, .int (-2 : Int32)] μ (fun r2 μ1 => Q (some (.int r2)) μ1)) ∧ (¬ (μ.1 89 46) = (0 : Int32) → wm_Wp 0 304 14 [.ref 89, .null] μ Q))) : wm_Ok 0 304 [.ref 89] μ Q := wm_ent (nL := 2) (l := [.ref 89, .null]) (by decide +kernel) (by decide +kernel) (by decide +kernel) rfl rfl (wm_vc mo_304 (rt := some .int) (by decide +kernel) mc_304 86 h)
-- WindBoatModel.back()I, the place 14
set_option maxRecDepth 100000 in
set_option maxHeartbeats 8000000 in
theorem f_304_14 (μ : wm_M) (Q : Option Value → wm_M → Prop) (h : wm_Wp 0 304 16 [.ref 89, .int (0 : Int32)] μ Q) : wm_Wp 0 304 14 [.ref 89, .null] μ Q := wm_vc mo_304 (rt := some .int) (by decide +kernel) mc_304 86 h
-- WindBoatModel.back()I, the place 16
set_option maxRecDepth 100000 in
set_option maxHeartbeats 8000000 in
theorem f_304_16 (x1 : Int32) (μ : wm_M) (Q : Option Value → wm_M → Prop) (h : (((2060 : Int32) ≤ x1 → wm_Wp 0 304 41 [.ref 89, .null] μ Q) ∧ (¬ (2060 : Int32) ≤ x1 → (vp_in x1 2060 ∧ (vp_in x1 2060 ∧ wm_Wp 0 304 35 [.ref 89, .int x1] (wm_si μ 91 (x1).toNatClampNeg (μ.1 110 (x1).toNatClampNeg)) Q))))) : wm_Wp 0 304 16 [.ref 89, .int x1] μ Q := wm_vc mo_304 (rt := some .int) (by decide +kernel) mc_304 86 h
-- WindBoatModel.back()I, the place 35
set_option maxRecDepth 100000 in
set_option maxHeartbeats 8000000 in
theorem f_304_35 (x1 : Int32) (μ : wm_M) (Q : Option Value → wm_M → Prop) (h : wm_Wp 0 304 16 [.ref 89, .int (x1 + (1 : Int32))] μ Q) : wm_Wp 0 304 35 [.ref 89, .int x1] μ Q := wm_vc mo_304 (rt := some .int) (by decide +kernel) mc_304 86 h
-- WindBoatModel.back()I, the place 41
set_option maxRecDepth 100000 in
set_option maxHeartbeats 8000000 in
theorem f_304_41 (μ : wm_M) (Q : Option Value → wm_M → Prop) (h : wm_OkI 0 188 [.ref 89, .int (6 : Int32)] μ (fun r2 μ1 => ((r2 = (1 : Int32) → wm_Wp 0 304 51 [.ref 89, .null] μ1 Q) ∧ (¬ r2 = (1 : Int32) → wm_Wp 0 304 60 [.null, .null] μ1 Q)))) : wm_Wp 0 304 41 [.ref 89, .null] μ Q := wm_vc mo_304 (rt := some .int) (by decide +kernel) mc_304 86 h
-- WindBoatModel.back()I, the place 51
set_option maxRecDepth 100000 in
set_option maxHeartbeats 8000000 in
theorem f_304_51 (μ : wm_M) (Q : Option Value → wm_M → Prop) (h : wm_OkI 0 188 [.ref 89, .int (10 : Int32)] μ (fun r2 μ1 => Q (some (.int r2)) μ1)) : wm_Wp 0 304 51 [.ref 89, .null] μ Q := wm_vc mo_304 (rt := some .int) (by decide +kernel) mc_304 86 h
-- WindBoatModel.back()I, the place 60
set_option maxRecDepth 100000 in
set_option maxHeartbeats 8000000 in
theorem f_304_60 (μ : wm_M) (Q : Option Value → wm_M → Prop) (h : Q (some (.int (0 : Int32))) μ) : wm_Wp 0 304 60 [.null, .null] μ Q := wm_vc mo_304 (rt := some .int) (by decide +kernel) mc_304 86 h
-- WindBoatModel.lay(I)I
set_option maxRecDepth 100000 in
set_option maxHeartbeats 8000000 in
theorem f_305 (a1 : Int32) (μ : wm_M) (Q : Option Value → wm_M → Prop) (h : (((0 : Int32) ≤ a1 → wm_Wp 0 305 11 [.ref 89, .int a1, .null] μ Q) ∧ (¬ (0 : Int32) ≤ a1 → wm_OkI 0 185 [.ref 89, .int (-4 : Int32)] μ (fun r2 μ1 => Q (some (.int r2)) μ1)))) : wm_Ok 0 305 [.ref 89, .int a1] μ Q := wm_ent (nL := 3) (l := [.ref 89, .int a1, .null]) (by decide +kernel) (by decide +kernel) (by decide +kernel) rfl rfl (wm_vc mo_305 (rt := some .int) (by decide +kernel) mc_305 86 h)
-- WindBoatModel.lay(I)I, the place 11
set_option maxRecDepth 100000 in
set_option maxHeartbeats 8000000 in
theorem f_305_11 (x1 : Int32) (μ : wm_M) (Q : Option Value → wm_M → Prop) (h : ((x1 ≤ (12 : Int32) → wm_Wp 0 305 24 [.ref 89, .int x1, .null] μ Q) ∧ (¬ x1 ≤ (12 : Int32) → wm_OkI 0 185 [.ref 89, .int (-7 : Int32)] μ (fun r2 μ1 => Q (some (.int r2)) μ1)))) : wm_Wp 0 305 11 [.ref 89, .int x1, .null] μ Q := wm_vc mo_305 (rt := some .int) (by decide +kernel) mc_305 86 h
-- WindBoatModel.lay(I)I, the place 24
set_option maxRecDepth 100000 in
set_option maxHeartbeats 8000000 in
theorem f_305_24 (x1 : Int32) (μ : wm_M) (Q : Option Value → wm_M → Prop) (h : wm_Wp 0 305 26 [.ref 89, .int x1, .int (0 : Int32)] μ Q) : wm_Wp 0 305 24 [.ref 89, .int x1, .null] μ Q := wm_vc mo_305 (rt := some .int) (by decide +kernel) mc_305 86 h
-- WindBoatModel.lay(I)I, the place 26
set_option maxRecDepth 100000 in
set_option maxHeartbeats 8000000 in
theorem f_305_26 (x1 : Int32) (x2 : Int32) (μ : wm_M) (Q : Option Value → wm_M → Prop) (h : (((12 : Int32) ≤ x2 → wm_Wp 0 305 45 [.ref 89, .int x1, .null] μ Q) ∧ (¬ (12 : Int32) ≤ x2 → (vp_in x2 12 ∧ wm_Wp 0 305 39 [.ref 89, .int x1, .int x2] (wm_si μ 111 (x2).toNatClampNeg (0 : Int32)) Q)))) : wm_Wp 0 305 26 [.ref 89, .int x1, .int x2] μ Q := wm_vc mo_305 (rt := some .int) (by decide +kernel) mc_305 86 h
-- WindBoatModel.lay(I)I, the place 39
set_option maxRecDepth 100000 in
set_option maxHeartbeats 8000000 in
theorem f_305_39 (x1 : Int32) (x2 : Int32) (μ : wm_M) (Q : Option Value → wm_M → Prop) (h : wm_Wp 0 305 26 [.ref 89, .int x1, .int (x2 + (1 : Int32))] μ Q) : wm_Wp 0 305 39 [.ref 89, .int x1, .int x2] μ Q := wm_vc mo_305 (rt := some .int) (by decide +kernel) mc_305 86 h
-- WindBoatModel.lay(I)I, the place 45
set_option maxRecDepth 100000 in
set_option maxHeartbeats 8000000 in
theorem f_305_45 (x1 : Int32) (μ : wm_M) (Q : Option Value → wm_M → Prop) (h : wm_Wp 0 305 50 [.ref 89, .int x1, .null] (wm_si μ 89 48 x1) Q) : wm_Wp 0 305 45 [.ref 89, .int x1, .null] μ Q := wm_vc mo_305 (rt := some .int) (by decide +kernel) mc_305 86 h
-- WindBoatModel.lay(I)I, the place 50
set_option maxRecDepth 100000 in
set_option maxHeartbeats 8000000 in
theorem f_305_50 (x1 : Int32) (μ : wm_M) (Q : Option Value → wm_M → Prop) (h : (((1 : Int32) = 0 ∨ (1 : Int32) = 1) ∧ wm_Wp 0 305 55 [.null, .int x1, .null] (wm_si μ 89 49 (1 : Int32)) Q)) : wm_Wp 0 305 50 [.ref 89, .int x1, .null] μ Q := wm_vc mo_305 (rt := some .int) (by decide +kernel) mc_305 86 h
-- WindBoatModel.lay(I)I, the place 55
set_option maxRecDepth 100000 in
set_option maxHeartbeats 8000000 in
theorem f_305_55 (x1 : Int32) (μ : wm_M) (Q : Option Value → wm_M → Prop) (h : Q (some (.int x1)) μ) : wm_Wp 0 305 55 [.null, .int x1, .null] μ Q := wm_vc mo_305 (rt := some .int) (by decide +kernel) mc_305 86 h
-- WindBoatModel.set(II)I
set_option maxRecDepth 100000 in
set_option maxHeartbeats 8000000 in
theorem f_306 (a1 : Int32) (a2 : Int32) (μ : wm_M) (Q : Option Value → wm_M → Prop) (h : (((μ.1 89 49) = (0 : Int32) → wm_OkI 0 186 [.ref 89, .int (-2 : Int32)] μ (fun r2 μ1 => Q (some (.int r2)) μ1)) ∧ (¬ (μ.1 89 49) = (0 : Int32) → wm_Wp 0 306 14 [.ref 89, .int a1, .int a2, .null] μ Q))) : wm_Ok 0 306 [.ref 89, .int a1, .int a2] μ Q := wm_ent (nL := 4) (l := [.ref 89, .int a1, .int a2, .null]) (by decide +kernel) (by decide +kernel) (by decide +kernel) rfl rfl (wm_vc mo_306 (rt := some .int) (by decide +kernel) mc_306 82 h)
-- WindBoatModel.set(II)I, the place 14
set_option maxRecDepth 100000 in
set_option maxHeartbeats 8000000 in
theorem f_306_14 (x1 : Int32) (x2 : Int32) (μ : wm_M) (Q : Option Value → wm_M → Prop) (h : wm_OkI 0 184 [.int x1, .int (0 : Int32), .int ((μ.1 89 48) - (1 : Int32))] μ (fun r2 μ1 => ((r2 = (0 : Int32) → wm_Wp 0 306 28 [.ref 89, .null, .null, .null] μ1 Q) ∧ (¬ r2 = (0 : Int32) → wm_Wp 0 306 35 [.ref 89, .int x1, .int x2, .null] μ1 Q)))) : wm_Wp 0 306 14 [.ref 89, .int x1, .int x2, .null] μ Q := wm_vc mo_306 (rt := some .int) (by decide +kernel) mc_306 82 h
-- WindBoatModel.set(II)I, the place 28
set_option maxRecDepth 100000 in
set_option maxHeartbeats 8000000 in
theorem f_306_28 (μ : wm_M) (Q : Option Value → wm_M → Prop) (h : wm_OkI 0 186 [.ref 89, .int (-3 : Int32)] μ (fun r2 μ1 => Q (some (.int r2)) μ1)) : wm_Wp 0 306 28 [.ref 89, .null, .null, .null] μ Q := wm_vc mo_306 (rt := some .int) (by decide +kernel) mc_306 82 h
-- WindBoatModel.set(II)I, the place 35
set_option maxRecDepth 100000 in
set_option maxHeartbeats 8000000 in
theorem f_306_35 (x1 : Int32) (x2 : Int32) (μ : wm_M) (Q : Option Value → wm_M → Prop) (h : (vp_in x1 12 ∧ (vp_in x1 12 ∧ wm_Wp 0 306 49 [.null, .null, .null, .int (μ.1 111 (x1).toNatClampNeg)] (wm_si μ 111 (x1).toNatClampNeg x2) Q))) : wm_Wp 0 306 35 [.ref 89, .int x1, .int x2, .null] μ Q := wm_vc mo_306 (rt := some .int) (by decide +kernel) mc_306 82 h
-- WindBoatModel.set(II)I, the place 49
set_option maxRecDepth 100000 in
set_option maxHeartbeats 8000000 in
theorem f_306_49 (x3 : Int32) (μ : wm_M) (Q : Option Value → wm_M → Prop) (h : Q (some (.int x3)) μ) : wm_Wp 0 306 49 [.null, .null, .null, .int x3] μ Q := wm_vc mo_306 (rt := some .int) (by decide +kernel) mc_306 82 h
-- WindBoatModel.tear()I
set_option maxRecDepth 100000 in
set_option maxHeartbeats 8000000 in
theorem f_307 (μ : wm_M) (Q : Option Value → wm_M → Prop) (h : (((μ.1 89 49) = (0 : Int32) → wm_Wp 0 307 11 [.ref 89, .null] μ Q) ∧ (¬ (μ.1 89 49) = (0 : Int32) → (((0 : Int32) = 0 ∨ (0 : Int32) = 1) ∧ wm_Wp 0 307 18 [.null, .int (1 : Int32)] (wm_si μ 89 49 (0 : Int32)) Q)))) : wm_Ok 0 307 [.ref 89] μ Q := wm_ent (nL := 2) (l := [.ref 89, .null]) (by decide +kernel) (by decide +kernel) (by decide +kernel) rfl rfl (wm_vc mo_307 (rt := some .int) (by decide +kernel) mc_307 44 h)
-- WindBoatModel.tear()I, the place 11
set_option maxRecDepth 100000 in
set_option maxHeartbeats 8000000 in
theorem f_307_11 (μ : wm_M) (Q : Option Value → wm_M → Prop) (h : (((0 : Int32) = 0 ∨ (0 : Int32) = 1) ∧ wm_Wp 0 307 18 [.null, .int (0 : Int32)] (wm_si μ 89 49 (0 : Int32)) Q)) : wm_Wp 0 307 11 [.ref 89, .null] μ Q := wm_vc mo_307 (rt := some .int) (by decide +kernel) mc_307 44 h
-- WindBoatModel.tear()I, the place 18
set_option maxRecDepth 100000 in
set_option maxHeartbeats 8000000 in
theorem f_307_18 (x1 : Int32) (μ : wm_M) (Q : Option Value → wm_M → Prop) (h : Q (some (.int x1)) μ) : wm_Wp 0 307 18 [.null, .int x1] μ Q := wm_vc mo_307 (rt := some .int) (by decide +kernel) mc_307 44 h
-- WindBoatModel.row(I)I
set_option maxRecDepth 100000 in
set_option maxHeartbeats 8000000 in
theorem f_308 (a1 : Int32) (μ : wm_M) (Q : Option Value → wm_M → Prop) (h : (((μ.1 89 49) = (0 : Int32) → wm_OkI 0 186 [.ref 89, .int (-2 : Int32)] μ (fun r2 μ1 => Q (some (.int r2)) μ1)) ∧ (¬ (μ.1 89 49) = (0 : Int32) → wm_Wp 0 308 14 [.ref 89, .int a1] μ Q))) : wm_Ok 0 308 [.ref 89, .int a1] μ Q := wm_ent (nL := 2) (l := [.ref 89, .int a1]) (by decide +kernel) (by decide +kernel) (by decide +kernel) rfl rfl (wm_vc mo_308 (rt := some .int) (by decide +kernel) mc_308 68 h)
-- WindBoatModel.row(I)I, the place 14
set_option maxRecDepth 100000 in
set_option maxHeartbeats 8000000 in
theorem f_308_14 (x1 : Int32) (μ : wm_M) (Q : Option Value → wm_M → Prop) (h : wm_OkI 0 184 [.int x1, .int (0 : Int32), .int ((μ.1 89 48) - (1 : Int32))] μ (fun r2 μ1 => ((r2 = (0 : Int32) → wm_Wp 0 308 37 [.ref 89, .null] μ1 Q) ∧ (¬ r2 = (0 : Int32) → wm_Wp 0 308 28 [.ref 89, .int x1] μ1 Q)))) : wm_Wp 0 308 14 [.ref 89, .int x1] μ Q := wm_vc mo_308 (rt := some .int) (by decide +kernel) mc_308 68 h
-- WindBoatModel.row(I)I, the place 28
set_option maxRecDepth 100000 in
set_option maxHeartbeats 8000000 in
theorem f_308_28 (x1 : Int32) (μ : wm_M) (Q : Option Value → wm_M → Prop) (h : (vp_in x1 12 ∧ Q (some (.int (μ.1 111 (x1).toNatClampNeg))) μ)) : wm_Wp 0 308 28 [.ref 89, .int x1] μ Q := wm_vc mo_308 (rt := some .int) (by decide +kernel) mc_308 68 h
-- WindBoatModel.row(I)I, the place 37
set_option maxRecDepth 100000 in
set_option maxHeartbeats 8000000 in
theorem f_308_37 (μ : wm_M) (Q : Option Value → wm_M → Prop) (h : wm_OkI 0 186 [.ref 89, .int (-3 : Int32)] μ (fun r2 μ1 => Q (some (.int r2)) μ1)) : wm_Wp 0 308 37 [.ref 89, .null] μ Q := wm_vc mo_308 (rt := some .int) (by decide +kernel) mc_308 68 h
-- WindBoatModel.copy(III)I
set_option maxRecDepth 100000 in
set_option maxHeartbeats 8000000 in
theorem f_309 (a1 : Int32) (a2 : Int32) (a3 : Int32) (μ : wm_M) (Q : Option Value → wm_M → Prop) (h : (((μ.1 89 49) = (0 : Int32) → wm_OkI 0 185 [.ref 89, .int (-2 : Int32)] μ (fun r2 μ1 => Q (some (.int r2)) μ1)) ∧ (¬ (μ.1 89 49) = (0 : Int32) → wm_Wp 0 309 14 [.ref 89, .int a1, .int a2, .int a3, .null] μ Q))) : wm_Ok 0 309 [.ref 89, .int a1, .int a2, .int a3] μ Q := wm_ent (nL := 5) (l := [.ref 89, .int a1, .int a2, .int a3, .null]) (by decide +kernel) (by decide +kernel) (by decide +kernel) rfl rfl (wm_vc mo_309 (rt := some .int) (by decide +kernel) mc_309 180 h)
-- WindBoatModel.copy(III)I, the place 14
set_option maxRecDepth 100000 in
set_option maxHeartbeats 8000000 in
theorem f_309_14 (x1 : Int32) (x2 : Int32) (x3 : Int32) (μ : wm_M) (Q : Option Value → wm_M → Prop) (h : (((0 : Int32) ≤ x3 → wm_Wp 0 309 25 [.ref 89, .int x1, .int x2, .int x3, .null] μ Q) ∧ (¬ (0 : Int32) ≤ x3 → wm_OkI 0 185 [.ref 89, .int (-4 : Int32)] μ (fun r2 μ1 => Q (some (.int r2)) μ1)))) : wm_Wp 0 309 14 [.ref 89, .int x1, .int x2, .int x3, .null] μ Q := wm_vc mo_309 (rt := some .int) (by decide +kernel) mc_309 180 h
-- WindBoatModel.copy(III)I, the place 25
set_option maxRecDepth 100000 in
set_option maxHeartbeats 8000000 in
theorem f_309_25 (x1 : Int32) (x2 : Int32) (x3 : Int32) (μ : wm_M) (Q : Option Value → wm_M → Prop) (h : ((x1 < (0 : Int32) → wm_Wp 0 309 53 [.ref 89, .null, .null, .null, .null] μ Q) ∧ (¬ x1 < (0 : Int32) → ((x2 < (0 : Int32) → wm_Wp 0 309 53 [.ref 89, .null, .null, .null, .null] μ Q) ∧ (¬ x2 < (0 : Int32) → ((((μ.1 89 48) - x3) < x1 → wm_Wp 0 309 53 [.ref 89, .null, .null, .null, .null] μ Q) ∧ (¬ ((μ.1 89 48) - x3) < x1 → ((x2 ≤ ((μ.1 89 48) - x3) → wm_Wp 0 309 60 [.ref 89, .int x1, .int x2, .int x3, .null] μ Q) ∧ (¬ x2 ≤ ((μ.1 89 48) - x3) → wm_Wp 0 309 53 [.ref 89, .null, .null, .null, .null] μ Q))))))))) : wm_Wp 0 309 25 [.ref 89, .int x1, .int x2, .int x3, .null] μ Q := wm_vc mo_309 (rt := some .int) (by decide +kernel) mc_309 180 h
-- WindBoatModel.copy(III)I, the place 53
set_option maxRecDepth 100000 in
set_option maxHeartbeats 8000000 in
theorem f_309_53 (μ : wm_M) (Q : Option Value → wm_M → Prop) (h : wm_OkI 0 185 [.ref 89, .int (-6 : Int32)] μ (fun r2 μ1 => Q (some (.int r2)) μ1)) : wm_Wp 0 309 53 [.ref 89, .null, .null, .null, .null] μ Q := wm_vc mo_309 (rt := some .int) (by decide +kernel) mc_309 180 h
-- WindBoatModel.copy(III)I, the place 60
set_option maxRecDepth 100000 in
set_option maxHeartbeats 8000000 in
theorem f_309_60 (x1 : Int32) (x2 : Int32) (x3 : Int32) (μ : wm_M) (Q : Option Value → wm_M → Prop) (h : wm_Wp 0 309 63 [.ref 89, .int x1, .int x2, .int x3, .int (0 : Int32)] μ Q) : wm_Wp 0 309 60 [.ref 89, .int x1, .int x2, .int x3, .null] μ Q := wm_vc mo_309 (rt := some .int) (by decide +kernel) mc_309 180 h
-- WindBoatModel.copy(III)I, the place 63
set_option maxRecDepth 100000 in
set_option maxHeartbeats 8000000 in
theorem f_309_63 (x1 : Int32) (x2 : Int32) (x3 : Int32) (x4 : Int32) (μ : wm_M) (Q : Option Value → wm_M → Prop) (h : ((x3 ≤ x4 → wm_Wp 0 309 98 [.ref 89, .int x1, .int x2, .int x3, .null] μ Q) ∧ (¬ x3 ≤ x4 → ((x1 < x2 → wm_Wp 0 309 98 [.ref 89, .int x1, .int x2, .int x3, .null] μ Q) ∧ (¬ x1 < x2 → (vp_in (x1 + x4) 12 ∧ (vp_in (x2 + x4) 12 ∧ wm_Wp 0 309 92 [.ref 89, .int x1, .int x2, .int x3, .int x4] (wm_si μ 111 ((x2 + x4)).toNatClampNeg (μ.1 111 ((x1 + x4)).toNatClampNeg)) Q))))))) : wm_Wp 0 309 63 [.ref 89, .int x1, .int x2, .int x3, .int x4] μ Q := wm_vc mo_309 (rt := some .int) (by decide +kernel) mc_309 180 h
-- WindBoatModel.copy(III)I, the place 92
set_option maxRecDepth 100000 in
set_option maxHeartbeats 8000000 in
theorem f_309_92 (x1 : Int32) (x2 : Int32) (x3 : Int32) (x4 : Int32) (μ : wm_M) (Q : Option Value → wm_M → Prop) (h : wm_Wp 0 309 63 [.ref 89, .int x1, .int x2, .int x3, .int (x4 + (1 : Int32))] μ Q) : wm_Wp 0 309 92 [.ref 89, .int x1, .int x2, .int x3, .int x4] μ Q := wm_vc mo_309 (rt := some .int) (by decide +kernel) mc_309 180 h
-- WindBoatModel.copy(III)I, the place 98
set_option maxRecDepth 100000 in
set_option maxHeartbeats 8000000 in
theorem f_309_98 (x1 : Int32) (x2 : Int32) (x3 : Int32) (μ : wm_M) (Q : Option Value → wm_M → Prop) (h : wm_Wp 0 309 103 [.ref 89, .int x1, .int x2, .int x3, .int (x3 - (1 : Int32))] μ Q) : wm_Wp 0 309 98 [.ref 89, .int x1, .int x2, .int x3, .null] μ Q := wm_vc mo_309 (rt := some .int) (by decide +kernel) mc_309 180 h
-- WindBoatModel.copy(III)I, the place 103
set_option maxRecDepth 100000 in
set_option maxHeartbeats 8000000 in
theorem f_309_103 (x1 : Int32) (x2 : Int32) (x3 : Int32) (x4 : Int32) (μ : wm_M) (Q : Option Value → wm_M → Prop) (h : ((x4 < (0 : Int32) → wm_Wp 0 309 137 [.null, .null, .null, .int x3, .null] μ Q) ∧ (¬ x4 < (0 : Int32) → ((x2 ≤ x1 → wm_Wp 0 309 137 [.null, .null, .null, .int x3, .null] μ Q) ∧ (¬ x2 ≤ x1 → (vp_in (x1 + x4) 12 ∧ (vp_in (x2 + x4) 12 ∧ wm_Wp 0 309 131 [.ref 89, .int x1, .int x2, .int x3, .int x4] (wm_si μ 111 ((x2 + x4)).toNatClampNeg (μ.1 111 ((x1 + x4)).toNatClampNeg)) Q))))))) : wm_Wp 0 309 103 [.ref 89, .int x1, .int x2, .int x3, .int x4] μ Q := wm_vc mo_309 (rt := some .int) (by decide +kernel) mc_309 180 h
-- WindBoatModel.copy(III)I, the place 131
set_option maxRecDepth 100000 in
set_option maxHeartbeats 8000000 in
theorem f_309_131 (x1 : Int32) (x2 : Int32) (x3 : Int32) (x4 : Int32) (μ : wm_M) (Q : Option Value → wm_M → Prop) (h : wm_Wp 0 309 103 [.ref 89, .int x1, .int x2, .int x3, .int (x4 + (-1 : Int32))] μ Q) : wm_Wp 0 309 131 [.ref 89, .int x1, .int x2, .int x3, .int x4] μ Q := wm_vc mo_309 (rt := some .int) (by decide +kernel) mc_309 180 h
-- WindBoatModel.copy(III)I, the place 137
set_option maxRecDepth 100000 in
set_option maxHeartbeats 8000000 in
theorem f_309_137 (x3 : Int32) (μ : wm_M) (Q : Option Value → wm_M → Prop) (h : Q (some (.int x3)) μ) : wm_Wp 0 309 137 [.null, .null, .null, .int x3, .null] μ Q := wm_vc mo_309 (rt := some .int) (by decide +kernel) mc_309 180 h
