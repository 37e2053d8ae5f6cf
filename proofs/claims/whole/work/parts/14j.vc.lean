/-! ===== what each block of code asks (printed by wip/gen/genvc.py) ===== -/
-- WindBoatModel.hasTold(I)Z
set_option maxRecDepth 100000 in
set_option maxHeartbeats 8000000 in
theorem f_275 (a1 : Int32) (μ : wm_M) (Q : Option Value → wm_M → Prop) (h : wm_Wp 0 275 4 [.ref 89, .int a1, .int (0 : Int32), .int (0 : Int32)] μ Q) : wm_Ok 0 275 [.ref 89, .int a1] μ Q := wm_ent (nL := 4) (l := [.ref 89, .int a1, .null, .null]) (by decide +kernel) (by decide +kernel) (by decide +kernel) rfl rfl (wm_vc mo_275 (rt := some .boolean) (by decide +kernel) mc_275 72 h)
-- WindBoatModel.hasTold(I)Z, the place 4
set_option maxRecDepth 100000 in
set_option maxHeartbeats 8000000 in
theorem f_275_4 (x1 : Int32) (x2 : Int32) (x3 : Int32) (μ : wm_M) (Q : Option Value → wm_M → Prop) (h : (((6 : Int32) ≤ x3 → wm_Wp 0 275 43 [.null, .null, .int x2, .null] μ Q) ∧ (¬ (6 : Int32) ≤ x3 → ((x2 = (0 : Int32) → wm_OkI 0 266 [.ref 89, .int x3] μ (fun r2 μ1 => ((r2 = (0 : Int32) → wm_Wp 0 275 35 [.ref 89, .int x1, .null, .int x3] μ1 Q) ∧ (¬ r2 = (0 : Int32) → wm_Wp 0 275 22 [.ref 89, .int x1, .null, .int x3] μ1 Q)))) ∧ (¬ x2 = (0 : Int32) → wm_Wp 0 275 31 [.ref 89, .int x1, .null, .int x3] μ Q))))) : wm_Wp 0 275 4 [.ref 89, .int x1, .int x2, .int x3] μ Q := wm_vc mo_275 (rt := some .boolean) (by decide +kernel) mc_275 72 h
-- WindBoatModel.hasTold(I)Z, the place 22
set_option maxRecDepth 100000 in
set_option maxHeartbeats 8000000 in
theorem f_275_22 (x1 : Int32) (x3 : Int32) (μ : wm_M) (Q : Option Value → wm_M → Prop) (h : wm_OkI 0 273 [.ref 89, .int x3] μ (fun r2 μ1 => ((r2 = x1 → wm_Wp 0 275 31 [.ref 89, .int x1, .null, .int x3] μ1 Q) ∧ (¬ r2 = x1 → wm_Wp 0 275 35 [.ref 89, .int x1, .null, .int x3] μ1 Q)))) : wm_Wp 0 275 22 [.ref 89, .int x1, .null, .int x3] μ Q := wm_vc mo_275 (rt := some .boolean) (by decide +kernel) mc_275 72 h
-- WindBoatModel.hasTold(I)Z, the place 31
set_option maxRecDepth 100000 in
set_option maxHeartbeats 8000000 in
theorem f_275_31 (x1 : Int32) (x3 : Int32) (μ : wm_M) (Q : Option Value → wm_M → Prop) (h : wm_Wp 0 275 4 [.ref 89, .int x1, .int (1 : Int32), .int (x3 + (1 : Int32))] μ Q) : wm_Wp 0 275 31 [.ref 89, .int x1, .null, .int x3] μ Q := wm_vc mo_275 (rt := some .boolean) (by decide +kernel) mc_275 72 h
-- WindBoatModel.hasTold(I)Z, the place 35
set_option maxRecDepth 100000 in
set_option maxHeartbeats 8000000 in
theorem f_275_35 (x1 : Int32) (x3 : Int32) (μ : wm_M) (Q : Option Value → wm_M → Prop) (h : wm_Wp 0 275 4 [.ref 89, .int x1, .int (0 : Int32), .int (x3 + (1 : Int32))] μ Q) : wm_Wp 0 275 35 [.ref 89, .int x1, .null, .int x3] μ Q := wm_vc mo_275 (rt := some .boolean) (by decide +kernel) mc_275 72 h
-- WindBoatModel.hasTold(I)Z, the place 43
set_option maxRecDepth 100000 in
set_option maxHeartbeats 8000000 in
theorem f_275_43 (x2 : Int32) (μ : wm_M) (Q : Option Value → wm_M → Prop) (h : ((x2 = 0 ∨ x2 = 1) ∧ Q (some (.int x2)) μ)) : wm_Wp 0 275 43 [.null, .null, .int x2, .null] μ Q := wm_vc mo_275 (rt := some .boolean) (by decide +kernel) mc_275 72 h
-- WindBoatModel.trees(I)J
set_option maxRecDepth 100000 in
set_option maxHeartbeats 8000000 in
theorem f_276 (a1 : Int32) (μ : wm_M) (Q : Option Value → wm_M → Prop) (h : wm_Wp 0 276 2 [.ref 89, .int a1, .int (0 : Int32), .null, .null, .null, .null, .null, .null, .null, .null] μ Q) : wm_Ok 0 276 [.ref 89, .int a1] μ Q := wm_ent (nL := 11) (l := [.ref 89, .int a1, .null, .null, .null, .null, .null, .null, .null, .null, .null]) (by decide +kernel) (by decide +kernel) (by decide +kernel) rfl rfl (wm_vc mo_276 (rt := some .long) (by decide +kernel) mc_276 248 h)
-- WindBoatModel.trees(I)J, the place 2
set_option maxRecDepth 100000 in
set_option maxHeartbeats 8000000 in
theorem f_276_2 (x1 : Int32) (x2 : Int32) (μ : wm_M) (Q : Option Value → wm_M → Prop) (h : (((6 : Int32) ≤ x2 → wm_Wp 0 276 25 [.ref 89, .int x1, .null, .null, .null, .null, .null, .null, .null, .null, .null] μ Q) ∧ (¬ (6 : Int32) ≤ x2 → wm_OkI 0 271 [.ref 89, .int x2] μ (fun r2 μ1 => (vp_in x2 6 ∧ wm_Wp 0 276 19 [.ref 89, .int x1, .int x2, .null, .null, .null, .null, .null, .null, .null, .null] (wm_si μ1 104 (x2).toNatClampNeg r2) Q))))) : wm_Wp 0 276 2 [.ref 89, .int x1, .int x2, .null, .null, .null, .null, .null, .null, .null, .null] μ Q := wm_vc mo_276 (rt := some .long) (by decide +kernel) mc_276 248 h
-- WindBoatModel.trees(I)J, the place 19
set_option maxRecDepth 100000 in
set_option maxHeartbeats 8000000 in
theorem f_276_19 (x1 : Int32) (x2 : Int32) (μ : wm_M) (Q : Option Value → wm_M → Prop) (h : wm_Wp 0 276 2 [.ref 89, .int x1, .int (x2 + (1 : Int32)), .null, .null, .null, .null, .null, .null, .null, .null] μ Q) : wm_Wp 0 276 19 [.ref 89, .int x1, .int x2, .null, .null, .null, .null, .null, .null, .null, .null] μ Q := wm_vc mo_276 (rt := some .long) (by decide +kernel) mc_276 248 h
-- WindBoatModel.trees(I)J, the place 25
set_option maxRecDepth 100000 in
set_option maxHeartbeats 8000000 in
theorem f_276_25 (x1 : Int32) (μ : wm_M) (Q : Option Value → wm_M → Prop) (h : wm_Wp 0 276 32 [.ref 89, .int x1, .long (0 : Int64), .null, .null, .null, .null, .null, .null, .null, .null] (wm_si μ 89 38 (-1 : Int32)) Q) : wm_Wp 0 276 25 [.ref 89, .int x1, .null, .null, .null, .null, .null, .null, .null, .null, .null] μ Q := wm_vc mo_276 (rt := some .long) (by decide +kernel) mc_276 248 h
-- WindBoatModel.trees(I)J, the place 32
set_option maxRecDepth 100000 in
set_option maxHeartbeats 8000000 in
theorem f_276_32 (x1 : Int32) (x2 : Int64) (μ : wm_M) (Q : Option Value → wm_M → Prop) (h : wm_Wp 0 276 35 [.ref 89, .int x1, .long x2, .null, .int (0 : Int32), .null, .null, .null, .null, .null, .null] μ Q) : wm_Wp 0 276 32 [.ref 89, .int x1, .long x2, .null, .null, .null, .null, .null, .null, .null, .null] μ Q := wm_vc mo_276 (rt := some .long) (by decide +kernel) mc_276 248 h
-- WindBoatModel.trees(I)J, the place 35
set_option maxRecDepth 100000 in
set_option maxHeartbeats 8000000 in
theorem f_276_35 (x1 : Int32) (x2 : Int64) (x4 : Int32) (μ : wm_M) (Q : Option Value → wm_M → Prop) (h : (((3 : Int32) ≤ x4 → wm_Wp 0 276 212 [.null, .null, .long x2, .null, .null, .null, .null, .null, .null, .null, .null] μ Q) ∧ (¬ (3 : Int32) ≤ x4 → wm_Wp 0 276 44 [.ref 89, .int x1, .long x2, .null, .int x4, .int (0 : Int32), .null, .null, .null, .null, .null] μ Q))) : wm_Wp 0 276 35 [.ref 89, .int x1, .long x2, .null, .int x4, .null, .null, .null, .null, .null, .null] μ Q := wm_vc mo_276 (rt := some .long) (by decide +kernel) mc_276 248 h
-- WindBoatModel.trees(I)J, the place 44
set_option maxRecDepth 100000 in
set_option maxHeartbeats 8000000 in
theorem f_276_44 (x1 : Int32) (x2 : Int64) (x4 : Int32) (x5 : Int32) (μ : wm_M) (Q : Option Value → wm_M → Prop) (h : (((3 : Int32) ≤ x5 → wm_Wp 0 276 139 [.ref 89, .int x1, .long x2, .null, .int x4, .null, .null, .null, .null, .null, .null] μ Q) ∧ (¬ (3 : Int32) ≤ x5 → (vp_in x5 3 ∧ wm_Wp 0 276 58 [.ref 89, .int x1, .long x2, .null, .int x4, .int x5, .null, .null, .null, .null, .null] (wm_si μ 105 (x5).toNatClampNeg (-1 : Int32)) Q)))) : wm_Wp 0 276 44 [.ref 89, .int x1, .long x2, .null, .int x4, .int x5, .null, .null, .null, .null, .null] μ Q := wm_vc mo_276 (rt := some .long) (by decide +kernel) mc_276 248 h
-- WindBoatModel.trees(I)J, the place 58
set_option maxRecDepth 100000 in
set_option maxHeartbeats 8000000 in
theorem f_276_58 (x1 : Int32) (x2 : Int64) (x4 : Int32) (x5 : Int32) (μ : wm_M) (Q : Option Value → wm_M → Prop) (h : wm_Wp 0 276 64 [.ref 89, .int x1, .long x2, .null, .int x4, .int x5, .long (0 : Int64), .null, .int (0 : Int32), .null, .null] μ Q) : wm_Wp 0 276 58 [.ref 89, .int x1, .long x2, .null, .int x4, .int x5, .null, .null, .null, .null, .null] μ Q := wm_vc mo_276 (rt := some .long) (by decide +kernel) mc_276 248 h
-- WindBoatModel.trees(I)J, the place 64
set_option maxRecDepth 100000 in
set_option maxHeartbeats 8000000 in
theorem f_276_64 (x1 : Int32) (x2 : Int64) (x4 : Int32) (x5 : Int32) (x6 : Int64) (x8 : Int32) (μ : wm_M) (Q : Option Value → wm_M → Prop) (h : (((3 : Int32) ≤ x8 → wm_Wp 0 276 133 [.ref 89, .int x1, .long x2, .null, .int x4, .int x5, .null, .null, .null, .null, .null] μ Q) ∧ (¬ (3 : Int32) ≤ x8 → wm_OkI 0 275 [.ref 89, .int x5] μ (fun r2 μ1 => ((r2 = (0 : Int32) → wm_Wp 0 276 133 [.ref 89, .int x1, .long x2, .null, .int x4, .int x5, .null, .null, .null, .null, .null] μ1 Q) ∧ (¬ r2 = (0 : Int32) → wm_Wp 0 276 79 [.ref 89, .int x1, .long x2, .null, .int x4, .int x5, .long x6, .null, .int x8, .null, .null] μ1 Q)))))) : wm_Wp 0 276 64 [.ref 89, .int x1, .long x2, .null, .int x4, .int x5, .long x6, .null, .int x8, .null, .null] μ Q := wm_vc mo_276 (rt := some .long) (by decide +kernel) mc_276 248 h
-- WindBoatModel.trees(I)J, the place 79
set_option maxRecDepth 100000 in
set_option maxHeartbeats 8000000 in
theorem f_276_79 (x1 : Int32) (x2 : Int64) (x4 : Int32) (x5 : Int32) (x6 : Int64) (x8 : Int32) (μ : wm_M) (Q : Option Value → wm_M → Prop) (h : wm_OkJ 0 274 [.ref 89, .int x1, .int x4, .int x5, .int x8] μ (fun r2 μ1 => wm_Wp 0 276 92 [.ref 89, .int x1, .long x2, .null, .int x4, .int x5, .long x6, .null, .int x8, .long r2, .null] μ1 Q)) : wm_Wp 0 276 79 [.ref 89, .int x1, .long x2, .null, .int x4, .int x5, .long x6, .null, .int x8, .null, .null] μ Q := wm_vc mo_276 (rt := some .long) (by decide +kernel) mc_276 248 h
-- WindBoatModel.trees(I)J, the place 92
set_option maxRecDepth 100000 in
set_option maxHeartbeats 8000000 in
theorem f_276_92 (x1 : Int32) (x2 : Int64) (x4 : Int32) (x5 : Int32) (x6 : Int64) (x8 : Int32) (x9 : Int64) (μ : wm_M) (Q : Option Value → wm_M → Prop) (h : (vp_in x5 3 ∧ (((μ.1 105 (x5).toNatClampNeg) = (-1 : Int32) → wm_Wp 0 276 114 [.ref 89, .int x1, .long x2, .null, .int x4, .int x5, .null, .null, .int x8, .long x9, .null] μ Q) ∧ (¬ (μ.1 105 (x5).toNatClampNeg) = (-1 : Int32) → (((lg_cmp x9 x6) < (0 : Int32) → wm_Wp 0 276 114 [.ref 89, .int x1, .long x2, .null, .int x4, .int x5, .null, .null, .int x8, .long x9, .null] μ Q) ∧ (¬ (lg_cmp x9 x6) < (0 : Int32) → wm_Wp 0 276 127 [.ref 89, .int x1, .long x2, .null, .int x4, .int x5, .long x6, .null, .int x8, .null, .null] μ Q)))))) : wm_Wp 0 276 92 [.ref 89, .int x1, .long x2, .null, .int x4, .int x5, .long x6, .null, .int x8, .long x9, .null] μ Q := wm_vc mo_276 (rt := some .long) (by decide +kernel) mc_276 248 h
-- WindBoatModel.trees(I)J, the place 114
set_option maxRecDepth 100000 in
set_option maxHeartbeats 8000000 in
theorem f_276_114 (x1 : Int32) (x2 : Int64) (x4 : Int32) (x5 : Int32) (x8 : Int32) (x9 : Int64) (μ : wm_M) (Q : Option Value → wm_M → Prop) (h : (vp_in x5 3 ∧ wm_Wp 0 276 123 [.ref 89, .int x1, .long x2, .null, .int x4, .int x5, .null, .null, .int x8, .long x9, .null] (wm_si μ 105 (x5).toNatClampNeg x8) Q)) : wm_Wp 0 276 114 [.ref 89, .int x1, .long x2, .null, .int x4, .int x5, .null, .null, .int x8, .long x9, .null] μ Q := wm_vc mo_276 (rt := some .long) (by decide +kernel) mc_276 248 h
-- WindBoatModel.trees(I)J, the place 123
set_option maxRecDepth 100000 in
set_option maxHeartbeats 8000000 in
theorem f_276_123 (x1 : Int32) (x2 : Int64) (x4 : Int32) (x5 : Int32) (x8 : Int32) (x9 : Int64) (μ : wm_M) (Q : Option Value → wm_M → Prop) (h : wm_Wp 0 276 127 [.ref 89, .int x1, .long x2, .null, .int x4, .int x5, .long x9, .null, .int x8, .null, .null] μ Q) : wm_Wp 0 276 123 [.ref 89, .int x1, .long x2, .null, .int x4, .int x5, .null, .null, .int x8, .long x9, .null] μ Q := wm_vc mo_276 (rt := some .long) (by decide +kernel) mc_276 248 h
-- WindBoatModel.trees(I)J, the place 127
set_option maxRecDepth 100000 in
set_option maxHeartbeats 8000000 in
theorem f_276_127 (x1 : Int32) (x2 : Int64) (x4 : Int32) (x5 : Int32) (x6 : Int64) (x8 : Int32) (μ : wm_M) (Q : Option Value → wm_M → Prop) (h : wm_Wp 0 276 64 [.ref 89, .int x1, .long x2, .null, .int x4, .int x5, .long x6, .null, .int (x8 + (1 : Int32)), .null, .null] μ Q) : wm_Wp 0 276 127 [.ref 89, .int x1, .long x2, .null, .int x4, .int x5, .long x6, .null, .int x8, .null, .null] μ Q := wm_vc mo_276 (rt := some .long) (by decide +kernel) mc_276 248 h
-- WindBoatModel.trees(I)J, the place 133
set_option maxRecDepth 100000 in
set_option maxHeartbeats 8000000 in
theorem f_276_133 (x1 : Int32) (x2 : Int64) (x4 : Int32) (x5 : Int32) (μ : wm_M) (Q : Option Value → wm_M → Prop) (h : wm_Wp 0 276 44 [.ref 89, .int x1, .long x2, .null, .int x4, .int (x5 + (1 : Int32)), .null, .null, .null, .null, .null] μ Q) : wm_Wp 0 276 133 [.ref 89, .int x1, .long x2, .null, .int x4, .int x5, .null, .null, .null, .null, .null] μ Q := wm_vc mo_276 (rt := some .long) (by decide +kernel) mc_276 248 h
-- WindBoatModel.trees(I)J, the place 139
set_option maxRecDepth 100000 in
set_option maxHeartbeats 8000000 in
theorem f_276_139 (x1 : Int32) (x2 : Int64) (x4 : Int32) (μ : wm_M) (Q : Option Value → wm_M → Prop) (h : wm_OkJ 0 274 [.ref 89, .int x1, .int x4, .int (-1 : Int32), .int (0 : Int32)] μ (fun r2 μ1 => wm_Wp 0 276 150 [.ref 89, .int x1, .long x2, .null, .int x4, .long r2, .null, .null, .null, .null, .null] μ1 Q)) : wm_Wp 0 276 139 [.ref 89, .int x1, .long x2, .null, .int x4, .null, .null, .null, .null, .null, .null] μ Q := wm_vc mo_276 (rt := some .long) (by decide +kernel) mc_276 248 h
-- WindBoatModel.trees(I)J, the place 150
set_option maxRecDepth 100000 in
set_option maxHeartbeats 8000000 in
theorem f_276_150 (x1 : Int32) (x2 : Int64) (x4 : Int32) (x5 : Int64) (μ : wm_M) (Q : Option Value → wm_M → Prop) (h : (((μ.1 89 38) = (-1 : Int32) → wm_Wp 0 276 168 [.ref 89, .int x1, .null, .null, .int x4, .long x5, .null, .null, .null, .null, .null] μ Q) ∧ (¬ (μ.1 89 38) = (-1 : Int32) → (((lg_cmp x5 x2) < (0 : Int32) → wm_Wp 0 276 168 [.ref 89, .int x1, .null, .null, .int x4, .long x5, .null, .null, .null, .null, .null] μ Q) ∧ (¬ (lg_cmp x5 x2) < (0 : Int32) → wm_Wp 0 276 206 [.ref 89, .int x1, .long x2, .null, .int x4, .null, .null, .null, .null, .null, .null] μ Q))))) : wm_Wp 0 276 150 [.ref 89, .int x1, .long x2, .null, .int x4, .long x5, .null, .null, .null, .null, .null] μ Q := wm_vc mo_276 (rt := some .long) (by decide +kernel) mc_276 248 h
-- WindBoatModel.trees(I)J, the place 168
set_option maxRecDepth 100000 in
set_option maxHeartbeats 8000000 in
theorem f_276_168 (x1 : Int32) (x4 : Int32) (x5 : Int64) (μ : wm_M) (Q : Option Value → wm_M → Prop) (h : wm_Wp 0 276 177 [.ref 89, .int x1, .long x5, .null, .int x4, .null, .null, .null, .null, .null, .null] (wm_si μ 89 38 x4) Q) : wm_Wp 0 276 168 [.ref 89, .int x1, .null, .null, .int x4, .long x5, .null, .null, .null, .null, .null] μ Q := wm_vc mo_276 (rt := some .long) (by decide +kernel) mc_276 248 h
-- WindBoatModel.trees(I)J, the place 177
set_option maxRecDepth 100000 in
set_option maxHeartbeats 8000000 in
theorem f_276_177 (x1 : Int32) (x2 : Int64) (x4 : Int32) (μ : wm_M) (Q : Option Value → wm_M → Prop) (h : wm_Wp 0 276 180 [.ref 89, .int x1, .long x2, .null, .int x4, .null, .null, .int (0 : Int32), .null, .null, .null] μ Q) : wm_Wp 0 276 177 [.ref 89, .int x1, .long x2, .null, .int x4, .null, .null, .null, .null, .null, .null] μ Q := wm_vc mo_276 (rt := some .long) (by decide +kernel) mc_276 248 h
-- WindBoatModel.trees(I)J, the place 180
set_option maxRecDepth 100000 in
set_option maxHeartbeats 8000000 in
theorem f_276_180 (x1 : Int32) (x2 : Int64) (x4 : Int32) (x7 : Int32) (μ : wm_M) (Q : Option Value → wm_M → Prop) (h : (((3 : Int32) ≤ x7 → wm_Wp 0 276 206 [.ref 89, .int x1, .long x2, .null, .int x4, .null, .null, .null, .null, .null, .null] μ Q) ∧ (¬ (3 : Int32) ≤ x7 → (vp_in x7 3 ∧ (vp_in x7 3 ∧ wm_Wp 0 276 200 [.ref 89, .int x1, .long x2, .null, .int x4, .null, .null, .int x7, .null, .null, .null] (wm_si μ 106 (x7).toNatClampNeg (μ.1 105 (x7).toNatClampNeg)) Q))))) : wm_Wp 0 276 180 [.ref 89, .int x1, .long x2, .null, .int x4, .null, .null, .int x7, .null, .null, .null] μ Q := wm_vc mo_276 (rt := some .long) (by decide +kernel) mc_276 248 h
-- WindBoatModel.trees(I)J, the place 200
set_option maxRecDepth 100000 in
set_option maxHeartbeats 8000000 in
theorem f_276_200 (x1 : Int32) (x2 : Int64) (x4 : Int32) (x7 : Int32) (μ : wm_M) (Q : Option Value → wm_M → Prop) (h : wm_Wp 0 276 180 [.ref 89, .int x1, .long x2, .null, .int x4, .null, .null, .int (x7 + (1 : Int32)), .null, .null, .null] μ Q) : wm_Wp 0 276 200 [.ref 89, .int x1, .long x2, .null, .int x4, .null, .null, .int x7, .null, .null, .null] μ Q := wm_vc mo_276 (rt := some .long) (by decide +kernel) mc_276 248 h
-- WindBoatModel.trees(I)J, the place 206
set_option maxRecDepth 100000 in
set_option maxHeartbeats 8000000 in
theorem f_276_206 (x1 : Int32) (x2 : Int64) (x4 : Int32) (μ : wm_M) (Q : Option Value → wm_M → Prop) (h : wm_Wp 0 276 35 [.ref 89, .int x1, .long x2, .null, .int (x4 + (1 : Int32)), .null, .null, .null, .null, .null, .null] μ Q) : wm_Wp 0 276 206 [.ref 89, .int x1, .long x2, .null, .int x4, .null, .null, .null, .null, .null, .null] μ Q := wm_vc mo_276 (rt := some .long) (by decide +kernel) mc_276 248 h
-- WindBoatModel.trees(I)J, the place 212
set_option maxRecDepth 100000 in
set_option maxHeartbeats 8000000 in
theorem f_276_212 (x2 : Int64) (μ : wm_M) (Q : Option Value → wm_M → Prop) (h : Q (some (.long x2)) μ) : wm_Wp 0 276 212 [.null, .null, .long x2, .null, .null, .null, .null, .null, .null, .null, .null] μ Q := wm_vc mo_276 (rt := some .long) (by decide +kernel) mc_276 248 h
-- WindBoatModel.anyTold()Z
set_option maxRecDepth 100000 in
set_option maxHeartbeats 8000000 in
theorem f_277 (μ : wm_M) (Q : Option Value → wm_M → Prop) (h : wm_Wp 0 277 4 [.ref 89, .int (0 : Int32), .int (0 : Int32)] μ Q) : wm_Ok 0 277 [.ref 89] μ Q := wm_ent (nL := 3) (l := [.ref 89, .null, .null]) (by decide +kernel) (by decide +kernel) (by decide +kernel) rfl rfl (wm_vc mo_277 (rt := some .boolean) (by decide +kernel) mc_277 62 h)
-- WindBoatModel.anyTold()Z, the place 4
set_option maxRecDepth 100000 in
set_option maxHeartbeats 8000000 in
theorem f_277_4 (x1 : Int32) (x2 : Int32) (μ : wm_M) (Q : Option Value → wm_M → Prop) (h : (((6 : Int32) ≤ x2 → wm_Wp 0 277 34 [.null, .int x1, .null] μ Q) ∧ (¬ (6 : Int32) ≤ x2 → ((x1 = (0 : Int32) → wm_OkI 0 266 [.ref 89, .int x2] μ (fun r2 μ1 => ((r2 = (0 : Int32) → wm_Wp 0 277 26 [.ref 89, .null, .int x2] μ1 Q) ∧ (¬ r2 = (0 : Int32) → wm_Wp 0 277 22 [.ref 89, .null, .int x2] μ1 Q)))) ∧ (¬ x1 = (0 : Int32) → wm_Wp 0 277 22 [.ref 89, .null, .int x2] μ Q))))) : wm_Wp 0 277 4 [.ref 89, .int x1, .int x2] μ Q := wm_vc mo_277 (rt := some .boolean) (by decide +kernel) mc_277 62 h
-- WindBoatModel.anyTold()Z, the place 22
set_option maxRecDepth 100000 in
set_option maxHeartbeats 8000000 in
theorem f_277_22 (x2 : Int32) (μ : wm_M) (Q : Option Value → wm_M → Prop) (h : wm_Wp 0 277 4 [.ref 89, .int (1 : Int32), .int (x2 + (1 : Int32))] μ Q) : wm_Wp 0 277 22 [.ref 89, .null, .int x2] μ Q := wm_vc mo_277 (rt := some .boolean) (by decide +kernel) mc_277 62 h
-- WindBoatModel.anyTold()Z, the place 26
set_option maxRecDepth 100000 in
set_option maxHeartbeats 8000000 in
theorem f_277_26 (x2 : Int32) (μ : wm_M) (Q : Option Value → wm_M → Prop) (h : wm_Wp 0 277 4 [.ref 89, .int (0 : Int32), .int (x2 + (1 : Int32))] μ Q) : wm_Wp 0 277 26 [.ref 89, .null, .int x2] μ Q := wm_vc mo_277 (rt := some .boolean) (by decide +kernel) mc_277 62 h
-- WindBoatModel.anyTold()Z, the place 34
set_option maxRecDepth 100000 in
set_option maxHeartbeats 8000000 in
theorem f_277_34 (x1 : Int32) (μ : wm_M) (Q : Option Value → wm_M → Prop) (h : ((x1 = 0 ∨ x1 = 1) ∧ Q (some (.int x1)) μ)) : wm_Wp 0 277 34 [.null, .int x1, .null] μ Q := wm_vc mo_277 (rt := some .boolean) (by decide +kernel) mc_277 62 h
-- WindBoatModel.tree(II)J
set_option maxRecDepth 100000 in
set_option maxHeartbeats 8000000 in
theorem f_278 (a1 : Int32) (a2 : Int32) (μ : wm_M) (Q : Option Value → wm_M → Prop) (h : wm_OkI 0 188 [.ref 89, .int (6 : Int32)] μ (fun r2 μ1 => ((r2 = (0 : Int32) → wm_Wp 0 278 16 [.ref 89, .null, .null, .null, .null, .null, .null, .null, .null, .null] μ1 Q) ∧ (¬ r2 = (0 : Int32) → wm_Wp 0 278 9 [.ref 89, .int a1, .int a2, .null, .null, .null, .null, .null, .null, .null] μ1 Q)))) : wm_Ok 0 278 [.ref 89, .int a1, .int a2] μ Q := wm_ent (nL := 10) (l := [.ref 89, .int a1, .int a2, .null, .null, .null, .null, .null, .null, .null]) (by decide +kernel) (by decide +kernel) (by decide +kernel) rfl rfl (wm_vc mo_278 (rt := some .long) (by decide +kernel) mc_278 284 h)
-- WindBoatModel.tree(II)J, the place 9
set_option maxRecDepth 100000 in
set_option maxHeartbeats 8000000 in
theorem f_278_9 (x1 : Int32) (x2 : Int32) (μ : wm_M) (Q : Option Value → wm_M → Prop) (h : wm_OkI 0 277 [.ref 89] μ (fun r2 μ1 => ((r2 = (0 : Int32) → wm_Wp 0 278 16 [.ref 89, .null, .null, .null, .null, .null, .null, .null, .null, .null] μ1 Q) ∧ (¬ r2 = (0 : Int32) → wm_Wp 0 278 24 [.ref 89, .int x1, .int x2, .null, .null, .null, .null, .null, .null, .null] μ1 Q)))) : wm_Wp 0 278 9 [.ref 89, .int x1, .int x2, .null, .null, .null, .null, .null, .null, .null] μ Q := wm_vc mo_278 (rt := some .long) (by decide +kernel) mc_278 284 h
-- WindBoatModel.tree(II)J, the place 16
set_option maxRecDepth 100000 in
set_option maxHeartbeats 8000000 in
theorem f_278_16 (μ : wm_M) (Q : Option Value → wm_M → Prop) (h : wm_OkI 0 185 [.ref 89, .int (-2 : Int32)] μ (fun r2 μ1 => Q (some (.long (r2).toInt64)) μ1)) : wm_Wp 0 278 16 [.ref 89, .null, .null, .null, .null, .null, .null, .null, .null, .null] μ Q := wm_vc mo_278 (rt := some .long) (by decide +kernel) mc_278 284 h
-- WindBoatModel.tree(II)J, the place 24
set_option maxRecDepth 100000 in
set_option maxHeartbeats 8000000 in
theorem f_278_24 (x1 : Int32) (x2 : Int32) (μ : wm_M) (Q : Option Value → wm_M → Prop) (h : wm_OkI 0 184 [.int x1, .int (0 : Int32), .int (2 : Int32)] μ (fun r2 μ1 => ((r2 = (0 : Int32) → wm_Wp 0 278 42 [.ref 89, .null, .null, .null, .null, .null, .null, .null, .null, .null] μ1 Q) ∧ (¬ r2 = (0 : Int32) → wm_Wp 0 278 33 [.ref 89, .int x1, .int x2, .null, .null, .null, .null, .null, .null, .null] μ1 Q)))) : wm_Wp 0 278 24 [.ref 89, .int x1, .int x2, .null, .null, .null, .null, .null, .null, .null] μ Q := wm_vc mo_278 (rt := some .long) (by decide +kernel) mc_278 284 h
-- WindBoatModel.tree(II)J, the place 33
set_option maxRecDepth 100000 in
set_option maxHeartbeats 8000000 in
theorem f_278_33 (x1 : Int32) (x2 : Int32) (μ : wm_M) (Q : Option Value → wm_M → Prop) (h : wm_OkI 0 184 [.int x2, .int (0 : Int32), .int (5 : Int32)] μ (fun r2 μ1 => ((r2 = (0 : Int32) → wm_Wp 0 278 42 [.ref 89, .null, .null, .null, .null, .null, .null, .null, .null, .null] μ1 Q) ∧ (¬ r2 = (0 : Int32) → wm_Wp 0 278 50 [.ref 89, .int x1, .int x2, .null, .null, .null, .null, .null, .null, .null] μ1 Q)))) : wm_Wp 0 278 33 [.ref 89, .int x1, .int x2, .null, .null, .null, .null, .null, .null, .null] μ Q := wm_vc mo_278 (rt := some .long) (by decide +kernel) mc_278 284 h
-- WindBoatModel.tree(II)J, the place 42
set_option maxRecDepth 100000 in
set_option maxHeartbeats 8000000 in
theorem f_278_42 (μ : wm_M) (Q : Option Value → wm_M → Prop) (h : wm_OkI 0 185 [.ref 89, .int (-7 : Int32)] μ (fun r2 μ1 => Q (some (.long (r2).toInt64)) μ1)) : wm_Wp 0 278 42 [.ref 89, .null, .null, .null, .null, .null, .null, .null, .null, .null] μ Q := wm_vc mo_278 (rt := some .long) (by decide +kernel) mc_278 284 h
-- WindBoatModel.tree(II)J, the place 50
set_option maxRecDepth 100000 in
set_option maxHeartbeats 8000000 in
theorem f_278_50 (x1 : Int32) (x2 : Int32) (μ : wm_M) (Q : Option Value → wm_M → Prop) (h : wm_OkV 0 268 [.ref 89] μ (fun μ1 => wm_Wp 0 278 54 [.ref 89, .int x1, .int x2, .null, .null, .null, .null, .null, .null, .null] μ1 Q)) : wm_Wp 0 278 50 [.ref 89, .int x1, .int x2, .null, .null, .null, .null, .null, .null, .null] μ Q := wm_vc mo_278 (rt := some .long) (by decide +kernel) mc_278 284 h
-- WindBoatModel.tree(II)J, the place 54
set_option maxRecDepth 100000 in
set_option maxHeartbeats 8000000 in
theorem f_278_54 (x1 : Int32) (x2 : Int32) (μ : wm_M) (Q : Option Value → wm_M → Prop) (h : (((0 : Int32) = 0 ∨ (0 : Int32) = 1) ∧ wm_Wp 0 278 59 [.ref 89, .int x1, .int x2, .null, .null, .null, .null, .null, .null, .null] (wm_si μ 89 37 (0 : Int32)) Q)) : wm_Wp 0 278 54 [.ref 89, .int x1, .int x2, .null, .null, .null, .null, .null, .null, .null] μ Q := wm_vc mo_278 (rt := some .long) (by decide +kernel) mc_278 284 h
-- WindBoatModel.tree(II)J, the place 59
set_option maxRecDepth 100000 in
set_option maxHeartbeats 8000000 in
theorem f_278_59 (x1 : Int32) (x2 : Int32) (μ : wm_M) (Q : Option Value → wm_M → Prop) (h : wm_OkJ 0 276 [.ref 89, .int x1] μ (fun r2 μ1 => wm_Wp 0 278 65 [.ref 89, .null, .int x2, .long r2, .null, .null, .null, .null, .null, .null] μ1 Q)) : wm_Wp 0 278 59 [.ref 89, .int x1, .int x2, .null, .null, .null, .null, .null, .null, .null] μ Q := wm_vc mo_278 (rt := some .long) (by decide +kernel) mc_278 284 h
-- WindBoatModel.tree(II)J, the place 65
set_option maxRecDepth 100000 in
set_option maxHeartbeats 8000000 in
theorem f_278_65 (x2 : Int32) (x3 : Int64) (μ : wm_M) (Q : Option Value → wm_M → Prop) (h : ((x2 = (0 : Int32) → Q (some (.long ((μ.1 89 38)).toInt64)) μ) ∧ (¬ x2 = (0 : Int32) → wm_Wp 0 278 75 [.ref 89, .null, .int x2, .long x3, .null, .null, .null, .null, .null, .null] μ Q))) : wm_Wp 0 278 65 [.ref 89, .null, .int x2, .long x3, .null, .null, .null, .null, .null, .null] μ Q := wm_vc mo_278 (rt := some .long) (by decide +kernel) mc_278 284 h
-- WindBoatModel.tree(II)J, the place 75
set_option maxRecDepth 100000 in
set_option maxHeartbeats 8000000 in
theorem f_278_75 (x2 : Int32) (x3 : Int64) (μ : wm_M) (Q : Option Value → wm_M → Prop) (h : ((x2 = (1 : Int32) → Q (some (.long x3)) μ) ∧ (¬ x2 = (1 : Int32) → wm_Wp 0 278 82 [.ref 89, .null, .int x2, .null, .null, .null, .null, .null, .null, .null] μ Q))) : wm_Wp 0 278 75 [.ref 89, .null, .int x2, .long x3, .null, .null, .null, .null, .null, .null] μ Q := wm_vc mo_278 (rt := some .long) (by decide +kernel) mc_278 284 h
-- WindBoatModel.tree(II)J, the place 82
set_option maxRecDepth 100000 in
set_option maxHeartbeats 8000000 in
theorem f_278_82 (x2 : Int32) (μ : wm_M) (Q : Option Value → wm_M → Prop) (h : (((5 : Int32) ≤ x2 → wm_Wp 0 278 97 [.ref 89, .null, .null, .null, .null, .null, .null, .null, .null, .null] μ Q) ∧ (¬ (5 : Int32) ≤ x2 → (vp_in (x2 - (2 : Int32)) 3 ∧ Q (some (.long ((μ.1 106 ((x2 - (2 : Int32))).toNatClampNeg)).toInt64)) μ)))) : wm_Wp 0 278 82 [.ref 89, .null, .int x2, .null, .null, .null, .null, .null, .null, .null] μ Q := wm_vc mo_278 (rt := some .long) (by decide +kernel) mc_278 284 h
-- WindBoatModel.tree(II)J, the place 97
set_option maxRecDepth 100000 in
set_option maxHeartbeats 8000000 in
theorem f_278_97 (μ : wm_M) (Q : Option Value → wm_M → Prop) (h : wm_Wp 0 278 103 [.ref 89, .null, .null, .null, .null, .long (0 : Int64), .null, .int (0 : Int32), .null, .null] μ Q) : wm_Wp 0 278 97 [.ref 89, .null, .null, .null, .null, .null, .null, .null, .null, .null] μ Q := wm_vc mo_278 (rt := some .long) (by decide +kernel) mc_278 284 h
-- WindBoatModel.tree(II)J, the place 103
set_option maxRecDepth 100000 in
set_option maxHeartbeats 8000000 in
theorem f_278_103 (x5 : Int64) (x7 : Int32) (μ : wm_M) (Q : Option Value → wm_M → Prop) (h : (((6 : Int32) ≤ x7 → wm_Wp 0 278 228 [.null, .null, .null, .null, .null, .long x5, .null, .null, .null, .null] μ Q) ∧ (¬ (6 : Int32) ≤ x7 → wm_OkI 0 266 [.ref 89, .int x7] μ (fun r2 μ1 => ((r2 = (0 : Int32) → wm_Wp 0 278 119 [.ref 89, .null, .null, .null, .null, .long x5, .null, .int x7, .null, .null] μ1 Q) ∧ (¬ r2 = (0 : Int32) → wm_Wp 0 278 122 [.ref 89, .null, .null, .null, .null, .long x5, .null, .int x7, .null, .null] μ1 Q)))))) : wm_Wp 0 278 103 [.ref 89, .null, .null, .null, .null, .long x5, .null, .int x7, .null, .null] μ Q := wm_vc mo_278 (rt := some .long) (by decide +kernel) mc_278 284 h
-- WindBoatModel.tree(II)J, the place 119
set_option maxRecDepth 100000 in
set_option maxHeartbeats 8000000 in
theorem f_278_119 (x5 : Int64) (x7 : Int32) (μ : wm_M) (Q : Option Value → wm_M → Prop) (h : wm_Wp 0 278 222 [.ref 89, .null, .null, .null, .null, .long x5, .null, .int x7, .null, .null] μ Q) : wm_Wp 0 278 119 [.ref 89, .null, .null, .null, .null, .long x5, .null, .int x7, .null, .null] μ Q := wm_vc mo_278 (rt := some .long) (by decide +kernel) mc_278 284 h
-- WindBoatModel.tree(II)J, the place 122
set_option maxRecDepth 100000 in
set_option maxHeartbeats 8000000 in
theorem f_278_122 (x5 : Int64) (x7 : Int32) (μ : wm_M) (Q : Option Value → wm_M → Prop) (h : wm_Wp 0 278 128 [.ref 89, .null, .null, .null, .null, .long x5, .null, .int x7, .int (1 : Int32), .int (0 : Int32)] μ Q) : wm_Wp 0 278 122 [.ref 89, .null, .null, .null, .null, .long x5, .null, .int x7, .null, .null] μ Q := wm_vc mo_278 (rt := some .long) (by decide +kernel) mc_278 284 h
-- WindBoatModel.tree(II)J, the place 128
set_option maxRecDepth 100000 in
set_option maxHeartbeats 8000000 in
theorem f_278_128 (x5 : Int64) (x7 : Int32) (x8 : Int32) (x9 : Int32) (μ : wm_M) (Q : Option Value → wm_M → Prop) (h : (((6 : Int32) ≤ x9 → wm_Wp 0 278 205 [.ref 89, .null, .null, .null, .null, .long x5, .null, .int x7, .int x8, .null] μ Q) ∧ (¬ (6 : Int32) ≤ x9 → (vp_in (((2004 : Int32) + ((6 : Int32) * x9)) + x7) 2060 ∧ (vp_in ((1995 : Int32) + x7) 2060 ∧ (vp_in (μ.1 91 (((1995 : Int32) + x7)).toNatClampNeg) 3 ∧ (vp_in ((((9 : Int32) * x7) + ((3 : Int32) * (μ.1 89 38))) + (μ.1 106 ((μ.1 91 (((1995 : Int32) + x7)).toNatClampNeg)).toNatClampNeg)) 54 ∧ (((μ.1 98 (((((9 : Int32) * x7) + ((3 : Int32) * (μ.1 89 38))) + (μ.1 106 ((μ.1 91 (((1995 : Int32) + x7)).toNatClampNeg)).toNatClampNeg))).toNatClampNeg) ≤ (μ.1 91 ((((2004 : Int32) + ((6 : Int32) * x9)) + x7)).toNatClampNeg) → wm_Wp 0 278 128 [.ref 89, .null, .null, .null, .null, .long x5, .null, .int x7, .int (x8 + (0 : Int32)), .int (x9 + (1 : Int32))] μ Q) ∧ (¬ (μ.1 98 (((((9 : Int32) * x7) + ((3 : Int32) * (μ.1 89 38))) + (μ.1 106 ((μ.1 91 (((1995 : Int32) + x7)).toNatClampNeg)).toNatClampNeg))).toNatClampNeg) ≤ (μ.1 91 ((((2004 : Int32) + ((6 : Int32) * x9)) + x7)).toNatClampNeg) → wm_Wp 0 278 128 [.ref 89, .null, .null, .null, .null, .long x5, .null, .int x7, .int (x8 + (1 : Int32)), .int (x9 + (1 : Int32))] μ Q))))))))) : wm_Wp 0 278 128 [.ref 89, .null, .null, .null, .null, .long x5, .null, .int x7, .int x8, .int x9] μ Q := wm_vc mo_278 (rt := some .long) (by decide +kernel) mc_278 284 h
-- WindBoatModel.tree(II)J, the place 205
set_option maxRecDepth 100000 in
set_option maxHeartbeats 8000000 in
theorem f_278_205 (x5 : Int64) (x7 : Int32) (x8 : Int32) (μ : wm_M) (Q : Option Value → wm_M → Prop) (h : (vp_in x7 6 ∧ wm_Wp 0 278 222 [.ref 89, .null, .null, .null, .null, .long (x5 + ((x8).toInt64 * ((μ.1 104 (x7).toNatClampNeg)).toInt64)), .null, .int x7, .null, .null] μ Q)) : wm_Wp 0 278 205 [.ref 89, .null, .null, .null, .null, .long x5, .null, .int x7, .int x8, .null] μ Q := wm_vc mo_278 (rt := some .long) (by decide +kernel) mc_278 284 h
-- WindBoatModel.tree(II)J, the place 222
set_option maxRecDepth 100000 in
set_option maxHeartbeats 8000000 in
theorem f_278_222 (x5 : Int64) (x7 : Int32) (μ : wm_M) (Q : Option Value → wm_M → Prop) (h : wm_Wp 0 278 103 [.ref 89, .null, .null, .null, .null, .long x5, .null, .int (x7 + (1 : Int32)), .null, .null] μ Q) : wm_Wp 0 278 222 [.ref 89, .null, .null, .null, .null, .long x5, .null, .int x7, .null, .null] μ Q := wm_vc mo_278 (rt := some .long) (by decide +kernel) mc_278 284 h
-- WindBoatModel.tree(II)J, the place 228
set_option maxRecDepth 100000 in
set_option maxHeartbeats 8000000 in
theorem f_278_228 (x5 : Int64) (μ : wm_M) (Q : Option Value → wm_M → Prop) (h : Q (some (.long x5)) μ) : wm_Wp 0 278 228 [.null, .null, .null, .null, .null, .long x5, .null, .null, .null, .null] μ Q := wm_vc mo_278 (rt := some .long) (by decide +kernel) mc_278 284 h
-- WindBoatModel.worth()J
set_option maxRecDepth 100000 in
set_option maxHeartbeats 8000000 in
theorem f_279 (μ : wm_M) (Q : Option Value → wm_M → Prop) (h : wm_OkI 0 188 [.ref 89, .int (6 : Int32)] μ (fun r2 μ1 => ((r2 = (0 : Int32) → wm_Wp 0 279 16 [.ref 89, .null, .null] μ1 Q) ∧ (¬ r2 = (0 : Int32) → wm_Wp 0 279 9 [.ref 89, .null, .null] μ1 Q)))) : wm_Ok 0 279 [.ref 89] μ Q := wm_ent (nL := 3) (l := [.ref 89, .null, .null]) (by decide +kernel) (by decide +kernel) (by decide +kernel) rfl rfl (wm_vc mo_279 (rt := some .long) (by decide +kernel) mc_279 80 h)
-- WindBoatModel.worth()J, the place 9
set_option maxRecDepth 100000 in
set_option maxHeartbeats 8000000 in
theorem f_279_9 (μ : wm_M) (Q : Option Value → wm_M → Prop) (h : wm_OkI 0 277 [.ref 89] μ (fun r2 μ1 => ((r2 = (0 : Int32) → wm_Wp 0 279 16 [.ref 89, .null, .null] μ1 Q) ∧ (¬ r2 = (0 : Int32) → wm_Wp 0 279 24 [.ref 89, .null, .null] μ1 Q)))) : wm_Wp 0 279 9 [.ref 89, .null, .null] μ Q := wm_vc mo_279 (rt := some .long) (by decide +kernel) mc_279 80 h
-- WindBoatModel.worth()J, the place 16
set_option maxRecDepth 100000 in
set_option maxHeartbeats 8000000 in
theorem f_279_16 (μ : wm_M) (Q : Option Value → wm_M → Prop) (h : wm_OkI 0 185 [.ref 89, .int (-2 : Int32)] μ (fun r2 μ1 => Q (some (.long (r2).toInt64)) μ1)) : wm_Wp 0 279 16 [.ref 89, .null, .null] μ Q := wm_vc mo_279 (rt := some .long) (by decide +kernel) mc_279 80 h
-- WindBoatModel.worth()J, the place 24
set_option maxRecDepth 100000 in
set_option maxHeartbeats 8000000 in
theorem f_279_24 (μ : wm_M) (Q : Option Value → wm_M → Prop) (h : wm_OkV 0 268 [.ref 89] μ (fun μ1 => wm_Wp 0 279 28 [.ref 89, .null, .null] μ1 Q)) : wm_Wp 0 279 24 [.ref 89, .null, .null] μ Q := wm_vc mo_279 (rt := some .long) (by decide +kernel) mc_279 80 h
-- WindBoatModel.worth()J, the place 28
set_option maxRecDepth 100000 in
set_option maxHeartbeats 8000000 in
theorem f_279_28 (μ : wm_M) (Q : Option Value → wm_M → Prop) (h : (((1 : Int32) = 0 ∨ (1 : Int32) = 1) ∧ wm_Wp 0 279 33 [.ref 89, .null, .null] (wm_si μ 89 37 (1 : Int32)) Q)) : wm_Wp 0 279 28 [.ref 89, .null, .null] μ Q := wm_vc mo_279 (rt := some .long) (by decide +kernel) mc_279 80 h
-- WindBoatModel.worth()J, the place 33
set_option maxRecDepth 100000 in
set_option maxHeartbeats 8000000 in
theorem f_279_33 (μ : wm_M) (Q : Option Value → wm_M → Prop) (h : wm_OkJ 0 276 [.ref 89, .int (0 : Int32)] μ (fun r2 μ1 => wm_Wp 0 279 39 [.ref 89, .long r2, .null] μ1 Q)) : wm_Wp 0 279 33 [.ref 89, .null, .null] μ Q := wm_vc mo_279 (rt := some .long) (by decide +kernel) mc_279 80 h
-- WindBoatModel.worth()J, the place 39
set_option maxRecDepth 100000 in
set_option maxHeartbeats 8000000 in
theorem f_279_39 (x1 : Int64) (μ : wm_M) (Q : Option Value → wm_M → Prop) (h : (((0 : Int32) = 0 ∨ (0 : Int32) = 1) ∧ wm_Wp 0 279 44 [.ref 89, .long x1, .null] (wm_si μ 89 37 (0 : Int32)) Q)) : wm_Wp 0 279 39 [.ref 89, .long x1, .null] μ Q := wm_vc mo_279 (rt := some .long) (by decide +kernel) mc_279 80 h
-- WindBoatModel.worth()J, the place 44
set_option maxRecDepth 100000 in
set_option maxHeartbeats 8000000 in
theorem f_279_44 (x1 : Int64) (μ : wm_M) (Q : Option Value → wm_M → Prop) (h : wm_OkJ 0 276 [.ref 89, .int (0 : Int32)] μ (fun r2 μ1 => Q (some (.long (x1 - r2))) μ1)) : wm_Wp 0 279 44 [.ref 89, .long x1, .null] μ Q := wm_vc mo_279 (rt := some .long) (by decide +kernel) mc_279 80 h
-- WindBoatModel.rival(III)I
set_option maxRecDepth 100000 in
set_option maxHeartbeats 8000000 in
theorem f_280 (a1 : Int32) (a2 : Int32) (a3 : Int32) (μ : wm_M) (Q : Option Value → wm_M → Prop) (h : wm_OkI 0 184 [.int a1, .int (0 : Int32), .int (5 : Int32)] μ (fun r2 μ1 => ((r2 = (0 : Int32) → wm_Wp 0 280 16 [.ref 89, .null, .null, .null, .null] μ1 Q) ∧ (¬ r2 = (0 : Int32) → wm_Wp 0 280 9 [.ref 89, .int a1, .int a2, .int a3, .null] μ1 Q)))) : wm_Ok 0 280 [.ref 89, .int a1, .int a2, .int a3] μ Q := wm_ent (nL := 5) (l := [.ref 89, .int a1, .int a2, .int a3, .null]) (by decide +kernel) (by decide +kernel) (by decide +kernel) rfl rfl (wm_vc mo_280 (rt := some .int) (by decide +kernel) mc_280 110 h)
-- WindBoatModel.rival(III)I, the place 9
set_option maxRecDepth 100000 in
set_option maxHeartbeats 8000000 in
theorem f_280_9 (x1 : Int32) (x2 : Int32) (x3 : Int32) (μ : wm_M) (Q : Option Value → wm_M → Prop) (h : wm_OkI 0 262 [.int x2] μ (fun r2 μ1 => ((r2 = (0 : Int32) → wm_Wp 0 280 16 [.ref 89, .null, .null, .null, .null] μ1 Q) ∧ (¬ r2 = (0 : Int32) → wm_Wp 0 280 23 [.ref 89, .int x1, .int x2, .int x3, .null] μ1 Q)))) : wm_Wp 0 280 9 [.ref 89, .int x1, .int x2, .int x3, .null] μ Q := wm_vc mo_280 (rt := some .int) (by decide +kernel) mc_280 110 h
-- WindBoatModel.rival(III)I, the place 16
set_option maxRecDepth 100000 in
set_option maxHeartbeats 8000000 in
theorem f_280_16 (μ : wm_M) (Q : Option Value → wm_M → Prop) (h : wm_OkI 0 185 [.ref 89, .int (-3 : Int32)] μ (fun r2 μ1 => Q (some (.int r2)) μ1)) : wm_Wp 0 280 16 [.ref 89, .null, .null, .null, .null] μ Q := wm_vc mo_280 (rt := some .int) (by decide +kernel) mc_280 110 h
-- WindBoatModel.rival(III)I, the place 23
set_option maxRecDepth 100000 in
set_option maxHeartbeats 8000000 in
theorem f_280_23 (x1 : Int32) (x2 : Int32) (x3 : Int32) (μ : wm_M) (Q : Option Value → wm_M → Prop) (h : wm_OkI 0 184 [.int x3, .int (0 : Int32), .int (999 : Int32)] μ (fun r2 μ1 => ((r2 = (0 : Int32) → wm_Wp 0 280 34 [.ref 89, .null, .null, .null, .null] μ1 Q) ∧ (¬ r2 = (0 : Int32) → wm_Wp 0 280 41 [.ref 89, .int x1, .int x2, .int x3, .null] μ1 Q)))) : wm_Wp 0 280 23 [.ref 89, .int x1, .int x2, .int x3, .null] μ Q := wm_vc mo_280 (rt := some .int) (by decide +kernel) mc_280 110 h
-- WindBoatModel.rival(III)I, the place 34
set_option maxRecDepth 100000 in
set_option maxHeartbeats 8000000 in
theorem f_280_34 (μ : wm_M) (Q : Option Value → wm_M → Prop) (h : wm_OkI 0 185 [.ref 89, .int (-7 : Int32)] μ (fun r2 μ1 => Q (some (.int r2)) μ1)) : wm_Wp 0 280 34 [.ref 89, .null, .null, .null, .null] μ Q := wm_vc mo_280 (rt := some .int) (by decide +kernel) mc_280 110 h
-- WindBoatModel.rival(III)I, the place 41
set_option maxRecDepth 100000 in
set_option maxHeartbeats 8000000 in
theorem f_280_41 (x1 : Int32) (x2 : Int32) (x3 : Int32) (μ : wm_M) (Q : Option Value → wm_M → Prop) (h : (vp_in (((2004 : Int32) + ((6 : Int32) * x1)) + x2) 2060 ∧ (vp_in (((2004 : Int32) + ((6 : Int32) * x1)) + x2) 2060 ∧ wm_Wp 0 280 74 [.null, .null, .null, .null, .int (μ.1 91 ((((2004 : Int32) + ((6 : Int32) * x1)) + x2)).toNatClampNeg)] (wm_si μ 91 ((((2004 : Int32) + ((6 : Int32) * x1)) + x2)).toNatClampNeg x3) Q))) : wm_Wp 0 280 41 [.ref 89, .int x1, .int x2, .int x3, .null] μ Q := wm_vc mo_280 (rt := some .int) (by decide +kernel) mc_280 110 h
-- WindBoatModel.rival(III)I, the place 74
set_option maxRecDepth 100000 in
set_option maxHeartbeats 8000000 in
theorem f_280_74 (x4 : Int32) (μ : wm_M) (Q : Option Value → wm_M → Prop) (h : Q (some (.int x4)) μ) : wm_Wp 0 280 74 [.null, .null, .null, .null, .int x4] μ Q := wm_vc mo_280 (rt := some .int) (by decide +kernel) mc_280 110 h
-- WindBoatModel.a(II)J
set_option maxRecDepth 100000 in
set_option maxHeartbeats 8000000 in
theorem f_281 (a1 : Int32) (a2 : Int32) (μ : wm_M) (Q : Option Value → wm_M → Prop) (h : (vp_in (((μ.1 89 39) * a1) + a2) 12 ∧ Q (some (.long ((μ.1 111 ((((μ.1 89 39) * a1) + a2)).toNatClampNeg)).toInt64)) μ)) : wm_Ok 0 281 [.ref 89, .int a1, .int a2] μ Q := wm_ent (nL := 3) (l := [.ref 89, .int a1, .int a2]) (by decide +kernel) (by decide +kernel) (by decide +kernel) rfl rfl (wm_vc mo_281 (rt := some .long) (by decide +kernel) mc_281 42 h)
-- WindBoatModel.down(JJ)J
set_option maxRecDepth 100000 in
set_option maxHeartbeats 8000000 in
theorem f_282 (a0 : Int64) (a2 : Int64) (μ : wm_M) (Q : Option Value → wm_M → Prop) (h : (((lg_cmp a0 (0 : Int64)) < (0 : Int32) → wm_Wp 0 282 12 [.long a0, .null, .long a2, .null] μ Q) ∧ (¬ (lg_cmp a0 (0 : Int64)) < (0 : Int32) → (¬ a2 = 0 ∧ Q (some (.long (a0 / a2))) μ)))) : wm_Ok 0 282 [.long a0, .long a2] μ Q := wm_ent (nL := 4) (l := [.long a0, .null, .long a2, .null]) (by decide +kernel) (by decide +kernel) (by decide +kernel) rfl rfl (wm_vc mo_282 (rt := some .long) (by decide +kernel) mc_282 56 h)
-- WindBoatModel.down(JJ)J, the place 12
set_option maxRecDepth 100000 in
set_option maxHeartbeats 8000000 in
theorem f_282_12 (x0 : Int64) (x2 : Int64) (μ : wm_M) (Q : Option Value → wm_M → Prop) (h : (¬ x2 = 0 ∧ Q (some (.long (-((((-x0) + x2) - (1 : Int64)) / x2)))) μ)) : wm_Wp 0 282 12 [.long x0, .null, .long x2, .null] μ Q := wm_vc mo_282 (rt := some .long) (by decide +kernel) mc_282 56 h
-- WindBoatModel.isAnswer()Z
set_option maxRecDepth 100000 in
set_option maxHeartbeats 8000000 in
theorem f_283 (μ : wm_M) (Q : Option Value → wm_M → Prop) (h : (((lg_cmp (μ.2 89 41) (0 : Int64)) = (0 : Int32) → (((0 : Int32) = 0 ∨ (0 : Int32) = 1) ∧ Q (some (.int (0 : Int32))) μ)) ∧ (¬ (lg_cmp (μ.2 89 41) (0 : Int64)) = (0 : Int32) → wm_Wp 0 283 11 [.ref 89, .null, .null, .null, .null, .null, .null] μ Q))) : wm_Ok 0 283 [.ref 89] μ Q := wm_ent (nL := 7) (l := [.ref 89, .null, .null, .null, .null, .null, .null]) (by decide +kernel) (by decide +kernel) (by decide +kernel) rfl rfl (wm_vc mo_283 (rt := some .boolean) (by decide +kernel) mc_283 262 h)
-- WindBoatModel.isAnswer()Z, the place 11
set_option maxRecDepth 100000 in
set_option maxHeartbeats 8000000 in
theorem f_283_11 (μ : wm_M) (Q : Option Value → wm_M → Prop) (h : (((0 : Int32) ≤ (lg_cmp (μ.2 89 41) (0 : Int64)) → wm_Wp 0 283 77 [.ref 89, .null, .null, .null, .null, .null, .null] μ Q) ∧ (¬ (0 : Int32) ≤ (lg_cmp (μ.2 89 41) (0 : Int64)) → wm_Wp 0 283 29 [.ref 89, .null, .null, .null, .null, .null, .null] (wm_sl μ 89 41 (-(μ.2 89 41))) Q))) : wm_Wp 0 283 11 [.ref 89, .null, .null, .null, .null, .null, .null] μ Q := wm_vc mo_283 (rt := some .boolean) (by decide +kernel) mc_283 262 h
-- WindBoatModel.isAnswer()Z, the place 29
set_option maxRecDepth 100000 in
set_option maxHeartbeats 8000000 in
theorem f_283_29 (μ : wm_M) (Q : Option Value → wm_M → Prop) (h : wm_Wp 0 283 38 [.ref 89, .null, .null, .null, .null, .null, .null] (wm_sl μ 89 40 (-(μ.2 89 40))) Q) : wm_Wp 0 283 29 [.ref 89, .null, .null, .null, .null, .null, .null] μ Q := wm_vc mo_283 (rt := some .boolean) (by decide +kernel) mc_283 262 h
-- WindBoatModel.isAnswer()Z, the place 38
set_option maxRecDepth 100000 in
set_option maxHeartbeats 8000000 in
theorem f_283_38 (μ : wm_M) (Q : Option Value → wm_M → Prop) (h : wm_Wp 0 283 40 [.ref 89, .int (0 : Int32), .null, .null, .null, .null, .null] μ Q) : wm_Wp 0 283 38 [.ref 89, .null, .null, .null, .null, .null, .null] μ Q := wm_vc mo_283 (rt := some .boolean) (by decide +kernel) mc_283 262 h
-- WindBoatModel.isAnswer()Z, the place 40
set_option maxRecDepth 100000 in
set_option maxHeartbeats 8000000 in
theorem f_283_40 (x1 : Int32) (μ : wm_M) (Q : Option Value → wm_M → Prop) (h : (((3 : Int32) ≤ x1 → wm_Wp 0 283 77 [.ref 89, .null, .null, .null, .null, .null, .null] μ Q) ∧ (¬ (3 : Int32) ≤ x1 → (vp_in x1 3 ∧ (vp_in x1 3 ∧ wm_Wp 0 283 58 [.ref 89, .int x1, .null, .null, .null, .null, .null] (wm_sl μ 107 (x1).toNatClampNeg (-(μ.2 107 (x1).toNatClampNeg))) Q))))) : wm_Wp 0 283 40 [.ref 89, .int x1, .null, .null, .null, .null, .null] μ Q := wm_vc mo_283 (rt := some .boolean) (by decide +kernel) mc_283 262 h
-- WindBoatModel.isAnswer()Z, the place 58
set_option maxRecDepth 100000 in
set_option maxHeartbeats 8000000 in
theorem f_283_58 (x1 : Int32) (μ : wm_M) (Q : Option Value → wm_M → Prop) (h : (vp_in x1 3 ∧ (vp_in x1 3 ∧ wm_Wp 0 283 71 [.ref 89, .int x1, .null, .null, .null, .null, .null] (wm_sl μ 108 (x1).toNatClampNeg (-(μ.2 108 (x1).toNatClampNeg))) Q))) : wm_Wp 0 283 58 [.ref 89, .int x1, .null, .null, .null, .null, .null] μ Q := wm_vc mo_283 (rt := some .boolean) (by decide +kernel) mc_283 262 h
-- WindBoatModel.isAnswer()Z, the place 71
set_option maxRecDepth 100000 in
set_option maxHeartbeats 8000000 in
theorem f_283_71 (x1 : Int32) (μ : wm_M) (Q : Option Value → wm_M → Prop) (h : wm_Wp 0 283 40 [.ref 89, .int (x1 + (1 : Int32)), .null, .null, .null, .null, .null] μ Q) : wm_Wp 0 283 71 [.ref 89, .int x1, .null, .null, .null, .null, .null] μ Q := wm_vc mo_283 (rt := some .boolean) (by decide +kernel) mc_283 262 h
-- WindBoatModel.isAnswer()Z, the place 77
set_option maxRecDepth 100000 in
set_option maxHeartbeats 8000000 in
theorem f_283_77 (μ : wm_M) (Q : Option Value → wm_M → Prop) (h : wm_Wp 0 283 79 [.ref 89, .int (0 : Int32), .null, .null, .null, .null, .null] μ Q) : wm_Wp 0 283 77 [.ref 89, .null, .null, .null, .null, .null, .null] μ Q := wm_vc mo_283 (rt := some .boolean) (by decide +kernel) mc_283 262 h
-- WindBoatModel.isAnswer()Z, the place 79
set_option maxRecDepth 100000 in
set_option maxHeartbeats 8000000 in
theorem f_283_79 (x1 : Int32) (μ : wm_M) (Q : Option Value → wm_M → Prop) (h : (((μ.1 89 39) ≤ x1 → wm_Wp 0 283 199 [.null, .null, .null, .null, .null, .null, .null] μ Q) ∧ (¬ (μ.1 89 39) ≤ x1 → (vp_in x1 3 ∧ (((lg_cmp (μ.2 107 (x1).toNatClampNeg) (0 : Int64)) < (0 : Int32) → wm_Wp 0 283 109 [.null, .null, .null, .null, .null, .null, .null] μ Q) ∧ (¬ (lg_cmp (μ.2 107 (x1).toNatClampNeg) (0 : Int64)) < (0 : Int32) → (vp_in x1 3 ∧ (((0 : Int32) ≤ (lg_cmp (μ.2 108 (x1).toNatClampNeg) (0 : Int64)) → wm_Wp 0 283 111 [.ref 89, .int x1, .null, .null, .null, .null, .null] μ Q) ∧ (¬ (0 : Int32) ≤ (lg_cmp (μ.2 108 (x1).toNatClampNeg) (0 : Int64)) → wm_Wp 0 283 109 [.null, .null, .null, .null, .null, .null, .null] μ Q))))))))) : wm_Wp 0 283 79 [.ref 89, .int x1, .null, .null, .null, .null, .null] μ Q := wm_vc mo_283 (rt := some .boolean) (by decide +kernel) mc_283 262 h
-- WindBoatModel.isAnswer()Z, the place 109
set_option maxRecDepth 100000 in
set_option maxHeartbeats 8000000 in
theorem f_283_109 (μ : wm_M) (Q : Option Value → wm_M → Prop) (h : (((0 : Int32) = 0 ∨ (0 : Int32) = 1) ∧ Q (some (.int (0 : Int32))) μ)) : wm_Wp 0 283 109 [.null, .null, .null, .null, .null, .null, .null] μ Q := wm_vc mo_283 (rt := some .boolean) (by decide +kernel) mc_283 262 h
-- WindBoatModel.isAnswer()Z, the place 111
set_option maxRecDepth 100000 in
set_option maxHeartbeats 8000000 in
theorem f_283_111 (x1 : Int32) (μ : wm_M) (Q : Option Value → wm_M → Prop) (h : wm_Wp 0 283 119 [.ref 89, .int x1, .long (0 : Int64), .null, .long (0 : Int64), .null, .int (0 : Int32)] μ Q) : wm_Wp 0 283 111 [.ref 89, .int x1, .null, .null, .null, .null, .null] μ Q := wm_vc mo_283 (rt := some .boolean) (by decide +kernel) mc_283 262 h
-- WindBoatModel.isAnswer()Z, the place 119
set_option maxRecDepth 100000 in
set_option maxHeartbeats 8000000 in
theorem f_283_119 (x1 : Int32) (x2 : Int64) (x4 : Int64) (x6 : Int32) (μ : wm_M) (Q : Option Value → wm_M → Prop) (h : (((μ.1 89 39) ≤ x6 → wm_Wp 0 283 172 [.ref 89, .int x1, .long x2, .null, .long x4, .null, .null] μ Q) ∧ (¬ (μ.1 89 39) ≤ x6 → (vp_in x6 3 ∧ wm_OkJ 0 281 [.ref 89, .int x6, .int x1] μ (fun r2 μ1 => wm_Wp 0 283 146 [.ref 89, .int x1, .long (x2 + ((μ.2 107 (x6).toNatClampNeg) * r2)), .null, .long x4, .null, .int x6] μ1 Q))))) : wm_Wp 0 283 119 [.ref 89, .int x1, .long x2, .null, .long x4, .null, .int x6] μ Q := wm_vc mo_283 (rt := some .boolean) (by decide +kernel) mc_283 262 h
-- WindBoatModel.isAnswer()Z, the place 146
set_option maxRecDepth 100000 in
set_option maxHeartbeats 8000000 in
theorem f_283_146 (x1 : Int32) (x2 : Int64) (x4 : Int64) (x6 : Int32) (μ : wm_M) (Q : Option Value → wm_M → Prop) (h : (vp_in x6 3 ∧ wm_OkJ 0 281 [.ref 89, .int x1, .int x6] μ (fun r2 μ1 => wm_Wp 0 283 166 [.ref 89, .int x1, .long x2, .null, .long (x4 + ((μ.2 108 (x6).toNatClampNeg) * r2)), .null, .int x6] μ1 Q))) : wm_Wp 0 283 146 [.ref 89, .int x1, .long x2, .null, .long x4, .null, .int x6] μ Q := wm_vc mo_283 (rt := some .boolean) (by decide +kernel) mc_283 262 h
-- WindBoatModel.isAnswer()Z, the place 166
set_option maxRecDepth 100000 in
set_option maxHeartbeats 8000000 in
theorem f_283_166 (x1 : Int32) (x2 : Int64) (x4 : Int64) (x6 : Int32) (μ : wm_M) (Q : Option Value → wm_M → Prop) (h : wm_Wp 0 283 119 [.ref 89, .int x1, .long x2, .null, .long x4, .null, .int (x6 + (1 : Int32))] μ Q) : wm_Wp 0 283 166 [.ref 89, .int x1, .long x2, .null, .long x4, .null, .int x6] μ Q := wm_vc mo_283 (rt := some .boolean) (by decide +kernel) mc_283 262 h
-- WindBoatModel.isAnswer()Z, the place 172
set_option maxRecDepth 100000 in
set_option maxHeartbeats 8000000 in
theorem f_283_172 (x1 : Int32) (x2 : Int64) (x4 : Int64) (μ : wm_M) (Q : Option Value → wm_M → Prop) (h : (((lg_cmp x2 (μ.2 89 40)) < (0 : Int32) → wm_Wp 0 283 191 [.null, .null, .null, .null, .null, .null, .null] μ Q) ∧ (¬ (lg_cmp x2 (μ.2 89 40)) < (0 : Int32) → (((lg_cmp x4 (μ.2 89 40)) ≤ (0 : Int32) → wm_Wp 0 283 193 [.ref 89, .int x1, .null, .null, .null, .null, .null] μ Q) ∧ (¬ (lg_cmp x4 (μ.2 89 40)) ≤ (0 : Int32) → wm_Wp 0 283 191 [.null, .null, .null, .null, .null, .null, .null] μ Q))))) : wm_Wp 0 283 172 [.ref 89, .int x1, .long x2, .null, .long x4, .null, .null] μ Q := wm_vc mo_283 (rt := some .boolean) (by decide +kernel) mc_283 262 h
-- WindBoatModel.isAnswer()Z, the place 191
set_option maxRecDepth 100000 in
set_option maxHeartbeats 8000000 in
theorem f_283_191 (μ : wm_M) (Q : Option Value → wm_M → Prop) (h : (((0 : Int32) = 0 ∨ (0 : Int32) = 1) ∧ Q (some (.int (0 : Int32))) μ)) : wm_Wp 0 283 191 [.null, .null, .null, .null, .null, .null, .null] μ Q := wm_vc mo_283 (rt := some .boolean) (by decide +kernel) mc_283 262 h
-- WindBoatModel.isAnswer()Z, the place 193
set_option maxRecDepth 100000 in
set_option maxHeartbeats 8000000 in
theorem f_283_193 (x1 : Int32) (μ : wm_M) (Q : Option Value → wm_M → Prop) (h : wm_Wp 0 283 79 [.ref 89, .int (x1 + (1 : Int32)), .null, .null, .null, .null, .null] μ Q) : wm_Wp 0 283 193 [.ref 89, .int x1, .null, .null, .null, .null, .null] μ Q := wm_vc mo_283 (rt := some .boolean) (by decide +kernel) mc_283 262 h
-- WindBoatModel.isAnswer()Z, the place 199
set_option maxRecDepth 100000 in
set_option maxHeartbeats 8000000 in
theorem f_283_199 (μ : wm_M) (Q : Option Value → wm_M → Prop) (h : (((1 : Int32) = 0 ∨ (1 : Int32) = 1) ∧ Q (some (.int (1 : Int32))) μ)) : wm_Wp 0 283 199 [.null, .null, .null, .null, .null, .null, .null] μ Q := wm_vc mo_283 (rt := some .boolean) (by decide +kernel) mc_283 262 h
-- WindBoatModel.noShares()V
set_option maxRecDepth 100000 in
set_option maxHeartbeats 8000000 in
theorem f_284 (μ : wm_M) (Q : Option Value → wm_M → Prop) (h : wm_Wp 0 284 2 [.ref 89, .int (0 : Int32)] μ Q) : wm_Ok 0 284 [.ref 89] μ Q := wm_ent (nL := 2) (l := [.ref 89, .null]) (by decide +kernel) (by decide +kernel) (by decide +kernel) rfl rfl (wm_vc mo_284 (rt := none) (by decide +kernel) mc_284 56 h)
-- WindBoatModel.noShares()V, the place 2
set_option maxRecDepth 100000 in
set_option maxHeartbeats 8000000 in
theorem f_284_2 (x1 : Int32) (μ : wm_M) (Q : Option Value → wm_M → Prop) (h : (((3 : Int32) ≤ x1 → wm_Wp 0 284 27 [.null, .null] μ Q) ∧ (¬ (3 : Int32) ≤ x1 → (vp_in x1 3 ∧ wm_Wp 0 284 14 [.ref 89, .int x1] (wm_sl μ 107 (x1).toNatClampNeg (0 : Int64)) Q)))) : wm_Wp 0 284 2 [.ref 89, .int x1] μ Q := wm_vc mo_284 (rt := none) (by decide +kernel) mc_284 56 h
-- WindBoatModel.noShares()V, the place 14
set_option maxRecDepth 100000 in
set_option maxHeartbeats 8000000 in
theorem f_284_14 (x1 : Int32) (μ : wm_M) (Q : Option Value → wm_M → Prop) (h : (vp_in x1 3 ∧ wm_Wp 0 284 21 [.ref 89, .int x1] (wm_sl μ 108 (x1).toNatClampNeg (0 : Int64)) Q)) : wm_Wp 0 284 14 [.ref 89, .int x1] μ Q := wm_vc mo_284 (rt := none) (by decide +kernel) mc_284 56 h
-- WindBoatModel.noShares()V, the place 21
set_option maxRecDepth 100000 in
set_option maxHeartbeats 8000000 in
theorem f_284_21 (x1 : Int32) (μ : wm_M) (Q : Option Value → wm_M → Prop) (h : wm_Wp 0 284 2 [.ref 89, .int (x1 + (1 : Int32))] μ Q) : wm_Wp 0 284 21 [.ref 89, .int x1] μ Q := wm_vc mo_284 (rt := none) (by decide +kernel) mc_284 56 h
-- WindBoatModel.noShares()V, the place 27
set_option maxRecDepth 100000 in
set_option maxHeartbeats 8000000 in
theorem f_284_27 (μ : wm_M) (Q : Option Value → wm_M → Prop) (h : Q none μ) : wm_Wp 0 284 27 [.null, .null] μ Q := wm_vc mo_284 (rt := none) (by decide +kernel) mc_284 56 h
-- WindBoatModel.byOne(II)Z
set_option maxRecDepth 100000 in
set_option maxHeartbeats 8000000 in
theorem f_285 (a1 : Int32) (a2 : Int32) (μ : wm_M) (Q : Option Value → wm_M → Prop) (h : wm_OkV 0 284 [.ref 89] μ (fun μ1 => wm_Wp 0 285 4 [.ref 89, .int a1, .int a2] μ1 Q)) : wm_Ok 0 285 [.ref 89, .int a1, .int a2] μ Q := wm_ent (nL := 3) (l := [.ref 89, .int a1, .int a2]) (by decide +kernel) (by decide +kernel) (by decide +kernel) rfl rfl (wm_vc mo_285 (rt := some .boolean) (by decide +kernel) mc_285 68 h)
-- WindBoatModel.byOne(II)Z, the place 4
set_option maxRecDepth 100000 in
set_option maxHeartbeats 8000000 in
theorem f_285_4 (x1 : Int32) (x2 : Int32) (μ : wm_M) (Q : Option Value → wm_M → Prop) (h : (vp_in x1 3 ∧ wm_Wp 0 285 11 [.ref 89, .int x1, .int x2] (wm_sl μ 107 (x1).toNatClampNeg (1 : Int64)) Q)) : wm_Wp 0 285 4 [.ref 89, .int x1, .int x2] μ Q := wm_vc mo_285 (rt := some .boolean) (by decide +kernel) mc_285 68 h
-- WindBoatModel.byOne(II)Z, the place 11
set_option maxRecDepth 100000 in
set_option maxHeartbeats 8000000 in
theorem f_285_11 (x1 : Int32) (x2 : Int32) (μ : wm_M) (Q : Option Value → wm_M → Prop) (h : (vp_in x2 3 ∧ wm_Wp 0 285 18 [.ref 89, .int x1, .int x2] (wm_sl μ 108 (x2).toNatClampNeg (1 : Int64)) Q)) : wm_Wp 0 285 11 [.ref 89, .int x1, .int x2] μ Q := wm_vc mo_285 (rt := some .boolean) (by decide +kernel) mc_285 68 h
-- WindBoatModel.byOne(II)Z, the place 18
set_option maxRecDepth 100000 in
set_option maxHeartbeats 8000000 in
theorem f_285_18 (x1 : Int32) (x2 : Int32) (μ : wm_M) (Q : Option Value → wm_M → Prop) (h : wm_OkJ 0 281 [.ref 89, .int x1, .int x2] μ (fun r2 μ1 => wm_Wp 0 285 28 [.ref 89, .null, .null] (wm_sl μ1 89 40 r2) Q)) : wm_Wp 0 285 18 [.ref 89, .int x1, .int x2] μ Q := wm_vc mo_285 (rt := some .boolean) (by decide +kernel) mc_285 68 h
-- WindBoatModel.byOne(II)Z, the place 28
set_option maxRecDepth 100000 in
set_option maxHeartbeats 8000000 in
theorem f_285_28 (μ : wm_M) (Q : Option Value → wm_M → Prop) (h : wm_Wp 0 285 33 [.ref 89, .null, .null] (wm_sl μ 89 41 (1 : Int64)) Q) : wm_Wp 0 285 28 [.ref 89, .null, .null] μ Q := wm_vc mo_285 (rt := some .boolean) (by decide +kernel) mc_285 68 h
-- WindBoatModel.byOne(II)Z, the place 33
set_option maxRecDepth 100000 in
set_option maxHeartbeats 8000000 in
theorem f_285_33 (μ : wm_M) (Q : Option Value → wm_M → Prop) (h : wm_OkI 0 283 [.ref 89] μ (fun r2 μ1 => ((r2 = 0 ∨ r2 = 1) ∧ Q (some (.int r2)) μ1))) : wm_Wp 0 285 33 [.ref 89, .null, .null] μ Q := wm_vc mo_285 (rt := some .boolean) (by decide +kernel) mc_285 68 h
-- WindBoatModel.byTwo(IIII)Z
set_option maxRecDepth 100000 in
set_option maxHeartbeats 8000000 in
theorem f_286 (a1 : Int32) (a2 : Int32) (a3 : Int32) (a4 : Int32) (μ : wm_M) (Q : Option Value → wm_M → Prop) (h : wm_OkV 0 284 [.ref 89] μ (fun μ1 => wm_Wp 0 286 4 [.ref 89, .int a1, .int a2, .int a3, .int a4] μ1 Q)) : wm_Ok 0 286 [.ref 89, .int a1, .int a2, .int a3, .int a4] μ Q := wm_ent (nL := 5) (l := [.ref 89, .int a1, .int a2, .int a3, .int a4]) (by decide +kernel) (by decide +kernel) (by decide +kernel) rfl rfl (wm_vc mo_286 (rt := some .boolean) (by decide +kernel) mc_286 198 h)
-- WindBoatModel.byTwo(IIII)Z, the place 4
set_option maxRecDepth 100000 in
set_option maxHeartbeats 8000000 in
theorem f_286_4 (x1 : Int32) (x2 : Int32) (x3 : Int32) (x4 : Int32) (μ : wm_M) (Q : Option Value → wm_M → Prop) (h : wm_OkJ 0 281 [.ref 89, .int x2, .int x4] μ (fun r2 μ1 => wm_OkJ 0 281 [.ref 89, .int x2, .int x3] μ1 (fun r4 μ3 => (vp_in x1 3 ∧ wm_Wp 0 286 24 [.ref 89, .int x1, .int x2, .int x3, .int x4] (wm_sl μ3 107 (x1).toNatClampNeg (r2 - r4)) Q)))) : wm_Wp 0 286 4 [.ref 89, .int x1, .int x2, .int x3, .int x4] μ Q := wm_vc mo_286 (rt := some .boolean) (by decide +kernel) mc_286 198 h
-- WindBoatModel.byTwo(IIII)Z, the place 24
set_option maxRecDepth 100000 in
set_option maxHeartbeats 8000000 in
theorem f_286_24 (x1 : Int32) (x2 : Int32) (x3 : Int32) (x4 : Int32) (μ : wm_M) (Q : Option Value → wm_M → Prop) (h : wm_OkJ 0 281 [.ref 89, .int x1, .int x3] μ (fun r2 μ1 => wm_OkJ 0 281 [.ref 89, .int x1, .int x4] μ1 (fun r4 μ3 => (vp_in x2 3 ∧ wm_Wp 0 286 44 [.ref 89, .int x1, .int x2, .int x3, .int x4] (wm_sl μ3 107 (x2).toNatClampNeg (r2 - r4)) Q)))) : wm_Wp 0 286 24 [.ref 89, .int x1, .int x2, .int x3, .int x4] μ Q := wm_vc mo_286 (rt := some .boolean) (by decide +kernel) mc_286 198 h
-- WindBoatModel.byTwo(IIII)Z, the place 44
set_option maxRecDepth 100000 in
set_option maxHeartbeats 8000000 in
theorem f_286_44 (x1 : Int32) (x2 : Int32) (x3 : Int32) (x4 : Int32) (μ : wm_M) (Q : Option Value → wm_M → Prop) (h : wm_OkJ 0 281 [.ref 89, .int x2, .int x4] μ (fun r2 μ1 => wm_OkJ 0 281 [.ref 89, .int x1, .int x4] μ1 (fun r4 μ3 => (vp_in x3 3 ∧ wm_Wp 0 286 65 [.ref 89, .int x1, .int x2, .int x3, .int x4] (wm_sl μ3 108 (x3).toNatClampNeg (r2 - r4)) Q)))) : wm_Wp 0 286 44 [.ref 89, .int x1, .int x2, .int x3, .int x4] μ Q := wm_vc mo_286 (rt := some .boolean) (by decide +kernel) mc_286 198 h
-- WindBoatModel.byTwo(IIII)Z, the place 65
set_option maxRecDepth 100000 in
set_option maxHeartbeats 8000000 in
theorem f_286_65 (x1 : Int32) (x2 : Int32) (x3 : Int32) (x4 : Int32) (μ : wm_M) (Q : Option Value → wm_M → Prop) (h : wm_OkJ 0 281 [.ref 89, .int x1, .int x3] μ (fun r2 μ1 => wm_OkJ 0 281 [.ref 89, .int x2, .int x3] μ1 (fun r4 μ3 => (vp_in x4 3 ∧ wm_Wp 0 286 85 [.ref 89, .int x1, .int x2, .int x3, .int x4] (wm_sl μ3 108 (x4).toNatClampNeg (r2 - r4)) Q)))) : wm_Wp 0 286 65 [.ref 89, .int x1, .int x2, .int x3, .int x4] μ Q := wm_vc mo_286 (rt := some .boolean) (by decide +kernel) mc_286 198 h
-- WindBoatModel.byTwo(IIII)Z, the place 85
set_option maxRecDepth 100000 in
set_option maxHeartbeats 8000000 in
theorem f_286_85 (x1 : Int32) (x2 : Int32) (x3 : Int32) (x4 : Int32) (μ : wm_M) (Q : Option Value → wm_M → Prop) (h : wm_OkJ 0 281 [.ref 89, .int x1, .int x3] μ (fun r2 μ1 => wm_OkJ 0 281 [.ref 89, .int x2, .int x4] μ1 (fun r4 μ3 => wm_OkJ 0 281 [.ref 89, .int x1, .int x4] μ3 (fun r6 μ5 => wm_OkJ 0 281 [.ref 89, .int x2, .int x3] μ5 (fun r8 μ7 => wm_Wp 0 286 118 [.ref 89, .int x1, .int x2, .null, .null] (wm_sl μ7 89 40 ((r2 * r4) - (r6 * r8))) Q))))) : wm_Wp 0 286 85 [.ref 89, .int x1, .int x2, .int x3, .int x4] μ Q := wm_vc mo_286 (rt := some .boolean) (by decide +kernel) mc_286 198 h
-- WindBoatModel.byTwo(IIII)Z, the place 118
set_option maxRecDepth 100000 in
set_option maxHeartbeats 8000000 in
theorem f_286_118 (x1 : Int32) (x2 : Int32) (μ : wm_M) (Q : Option Value → wm_M → Prop) (h : (vp_in x1 3 ∧ (vp_in x2 3 ∧ wm_Wp 0 286 135 [.ref 89, .null, .null, .null, .null] (wm_sl μ 89 41 ((μ.2 107 (x1).toNatClampNeg) + (μ.2 107 (x2).toNatClampNeg))) Q))) : wm_Wp 0 286 118 [.ref 89, .int x1, .int x2, .null, .null] μ Q := wm_vc mo_286 (rt := some .boolean) (by decide +kernel) mc_286 198 h
-- WindBoatModel.byTwo(IIII)Z, the place 135
set_option maxRecDepth 100000 in
set_option maxHeartbeats 8000000 in
theorem f_286_135 (μ : wm_M) (Q : Option Value → wm_M → Prop) (h : wm_OkI 0 283 [.ref 89] μ (fun r2 μ1 => ((r2 = 0 ∨ r2 = 1) ∧ Q (some (.int r2)) μ1))) : wm_Wp 0 286 135 [.ref 89, .null, .null, .null, .null] μ Q := wm_vc mo_286 (rt := some .boolean) (by decide +kernel) mc_286 198 h
-- WindBoatModel.cofactor(II)J
set_option maxRecDepth 100000 in
set_option maxHeartbeats 8000000 in
theorem f_287 (a1 : Int32) (a2 : Int32) (μ : wm_M) (Q : Option Value → wm_M → Prop) (h : (¬ (3 : Int32) = 0 ∧ (¬ (3 : Int32) = 0 ∧ wm_Wp 0 287 13 [.ref 89, .null, .int a2, .int ((a1 + (1 : Int32)) - (a1 + (1 : Int32)) / (3 : Int32) * (3 : Int32)), .int ((a1 + (2 : Int32)) - (a1 + (2 : Int32)) / (3 : Int32) * (3 : Int32)), .null, .null] μ Q))) : wm_Ok 0 287 [.ref 89, .int a1, .int a2] μ Q := wm_ent (nL := 7) (l := [.ref 89, .int a1, .int a2, .null, .null, .null, .null]) (by decide +kernel) (by decide +kernel) (by decide +kernel) rfl rfl (wm_vc mo_287 (rt := some .long) (by decide +kernel) mc_287 108 h)
-- WindBoatModel.cofactor(II)J, the place 13
set_option maxRecDepth 100000 in
set_option maxHeartbeats 8000000 in
theorem f_287_13 (x2 : Int32) (x3 : Int32) (x4 : Int32) (μ : wm_M) (Q : Option Value → wm_M → Prop) (h : (¬ (3 : Int32) = 0 ∧ (¬ (3 : Int32) = 0 ∧ wm_Wp 0 287 27 [.ref 89, .null, .null, .int x3, .int x4, .int ((x2 + (1 : Int32)) - (x2 + (1 : Int32)) / (3 : Int32) * (3 : Int32)), .int ((x2 + (2 : Int32)) - (x2 + (2 : Int32)) / (3 : Int32) * (3 : Int32))] μ Q))) : wm_Wp 0 287 13 [.ref 89, .null, .int x2, .int x3, .int x4, .null, .null] μ Q := wm_vc mo_287 (rt := some .long) (by decide +kernel) mc_287 108 h
-- WindBoatModel.cofactor(II)J, the place 27
set_option maxRecDepth 100000 in
set_option maxHeartbeats 8000000 in
theorem f_287_27 (x3 : Int32) (x4 : Int32) (x5 : Int32) (x6 : Int32) (μ : wm_M) (Q : Option Value → wm_M → Prop) (h : wm_OkJ 0 281 [.ref 89, .int x3, .int x5] μ (fun r2 μ1 => wm_OkJ 0 281 [.ref 89, .int x4, .int x6] μ1 (fun r4 μ3 => wm_OkJ 0 281 [.ref 89, .int x3, .int x6] μ3 (fun r6 μ5 => wm_OkJ 0 281 [.ref 89, .int x4, .int x5] μ5 (fun r8 μ7 => Q (some (.long ((r2 * r4) - (r6 * r8)))) μ7))))) : wm_Wp 0 287 27 [.ref 89, .null, .null, .int x3, .int x4, .int x5, .int x6] μ Q := wm_vc mo_287 (rt := some .long) (by decide +kernel) mc_287 108 h
-- WindBoatModel.byThree()Z
set_option maxRecDepth 100000 in
set_option maxHeartbeats 8000000 in
theorem f_288 (μ : wm_M) (Q : Option Value → wm_M → Prop) (h : wm_OkV 0 284 [.ref 89] μ (fun μ1 => wm_Wp 0 288 4 [.ref 89, .null, .null] μ1 Q)) : wm_Ok 0 288 [.ref 89] μ Q := wm_ent (nL := 3) (l := [.ref 89, .null, .null]) (by decide +kernel) (by decide +kernel) (by decide +kernel) rfl rfl (wm_vc mo_288 (rt := some .boolean) (by decide +kernel) mc_288 160 h)
-- WindBoatModel.byThree()Z, the place 4
set_option maxRecDepth 100000 in
set_option maxHeartbeats 8000000 in
theorem f_288_4 (μ : wm_M) (Q : Option Value → wm_M → Prop) (h : wm_Wp 0 288 9 [.ref 89, .null, .null] (wm_sl μ 89 41 (0 : Int64)) Q) : wm_Wp 0 288 4 [.ref 89, .null, .null] μ Q := wm_vc mo_288 (rt := some .boolean) (by decide +kernel) mc_288 160 h
-- WindBoatModel.byThree()Z, the place 9
set_option maxRecDepth 100000 in
set_option maxHeartbeats 8000000 in
theorem f_288_9 (μ : wm_M) (Q : Option Value → wm_M → Prop) (h : wm_Wp 0 288 14 [.ref 89, .null, .null] (wm_sl μ 89 40 (0 : Int64)) Q) : wm_Wp 0 288 9 [.ref 89, .null, .null] μ Q := wm_vc mo_288 (rt := some .boolean) (by decide +kernel) mc_288 160 h
-- WindBoatModel.byThree()Z, the place 14
set_option maxRecDepth 100000 in
set_option maxHeartbeats 8000000 in
theorem f_288_14 (μ : wm_M) (Q : Option Value → wm_M → Prop) (h : wm_Wp 0 288 16 [.ref 89, .int (0 : Int32), .null] μ Q) : wm_Wp 0 288 14 [.ref 89, .null, .null] μ Q := wm_vc mo_288 (rt := some .boolean) (by decide +kernel) mc_288 160 h
-- WindBoatModel.byThree()Z, the place 16
set_option maxRecDepth 100000 in
set_option maxHeartbeats 8000000 in
theorem f_288_16 (x1 : Int32) (μ : wm_M) (Q : Option Value → wm_M → Prop) (h : (((3 : Int32) ≤ x1 → wm_Wp 0 288 107 [.ref 89, .null, .null] μ Q) ∧ (¬ (3 : Int32) ≤ x1 → wm_Wp 0 288 23 [.ref 89, .int x1, .int (0 : Int32)] μ Q))) : wm_Wp 0 288 16 [.ref 89, .int x1, .null] μ Q := wm_vc mo_288 (rt := some .boolean) (by decide +kernel) mc_288 160 h
-- WindBoatModel.byThree()Z, the place 23
set_option maxRecDepth 100000 in
set_option maxHeartbeats 8000000 in
theorem f_288_23 (x1 : Int32) (x2 : Int32) (μ : wm_M) (Q : Option Value → wm_M → Prop) (h : (((3 : Int32) ≤ x2 → wm_Wp 0 288 79 [.ref 89, .int x1, .null] μ Q) ∧ (¬ (3 : Int32) ≤ x2 → (vp_in x1 3 ∧ wm_OkJ 0 287 [.ref 89, .int x1, .int x2] μ (fun r2 μ1 => (vp_in x1 3 ∧ wm_Wp 0 288 43 [.ref 89, .int x1, .int x2] (wm_sl μ1 107 (x1).toNatClampNeg ((μ.2 107 (x1).toNatClampNeg) + r2)) Q)))))) : wm_Wp 0 288 23 [.ref 89, .int x1, .int x2] μ Q := wm_vc mo_288 (rt := some .boolean) (by decide +kernel) mc_288 160 h
-- WindBoatModel.byThree()Z, the place 43
set_option maxRecDepth 100000 in
set_option maxHeartbeats 8000000 in
theorem f_288_43 (x1 : Int32) (x2 : Int32) (μ : wm_M) (Q : Option Value → wm_M → Prop) (h : (vp_in x2 3 ∧ wm_OkJ 0 287 [.ref 89, .int x1, .int x2] μ (fun r2 μ1 => (vp_in x2 3 ∧ wm_Wp 0 288 58 [.ref 89, .int x1, .int x2] (wm_sl μ1 108 (x2).toNatClampNeg ((μ.2 108 (x2).toNatClampNeg) + r2)) Q)))) : wm_Wp 0 288 43 [.ref 89, .int x1, .int x2] μ Q := wm_vc mo_288 (rt := some .boolean) (by decide +kernel) mc_288 160 h
-- WindBoatModel.byThree()Z, the place 58
set_option maxRecDepth 100000 in
set_option maxHeartbeats 8000000 in
theorem f_288_58 (x1 : Int32) (x2 : Int32) (μ : wm_M) (Q : Option Value → wm_M → Prop) (h : wm_OkJ 0 287 [.ref 89, .int x1, .int x2] μ (fun r2 μ1 => wm_Wp 0 288 73 [.ref 89, .int x1, .int x2] (wm_sl μ1 89 41 ((μ.2 89 41) + r2)) Q)) : wm_Wp 0 288 58 [.ref 89, .int x1, .int x2] μ Q := wm_vc mo_288 (rt := some .boolean) (by decide +kernel) mc_288 160 h
-- WindBoatModel.byThree()Z, the place 73
set_option maxRecDepth 100000 in
set_option maxHeartbeats 8000000 in
theorem f_288_73 (x1 : Int32) (x2 : Int32) (μ : wm_M) (Q : Option Value → wm_M → Prop) (h : wm_Wp 0 288 23 [.ref 89, .int x1, .int (x2 + (1 : Int32))] μ Q) : wm_Wp 0 288 73 [.ref 89, .int x1, .int x2] μ Q := wm_vc mo_288 (rt := some .boolean) (by decide +kernel) mc_288 160 h
-- WindBoatModel.byThree()Z, the place 79
set_option maxRecDepth 100000 in
set_option maxHeartbeats 8000000 in
theorem f_288_79 (x1 : Int32) (μ : wm_M) (Q : Option Value → wm_M → Prop) (h : wm_OkJ 0 281 [.ref 89, .int (0 : Int32), .int x1] μ (fun r2 μ1 => wm_OkJ 0 287 [.ref 89, .int (0 : Int32), .int x1] μ1 (fun r4 μ3 => wm_Wp 0 288 101 [.ref 89, .int x1, .null] (wm_sl μ3 89 40 ((μ.2 89 40) + (r2 * r4))) Q))) : wm_Wp 0 288 79 [.ref 89, .int x1, .null] μ Q := wm_vc mo_288 (rt := some .boolean) (by decide +kernel) mc_288 160 h
-- WindBoatModel.byThree()Z, the place 101
set_option maxRecDepth 100000 in
set_option maxHeartbeats 8000000 in
theorem f_288_101 (x1 : Int32) (μ : wm_M) (Q : Option Value → wm_M → Prop) (h : wm_Wp 0 288 16 [.ref 89, .int (x1 + (1 : Int32)), .null] μ Q) : wm_Wp 0 288 101 [.ref 89, .int x1, .null] μ Q := wm_vc mo_288 (rt := some .boolean) (by decide +kernel) mc_288 160 h
-- WindBoatModel.byThree()Z, the place 107
set_option maxRecDepth 100000 in
set_option maxHeartbeats 8000000 in
theorem f_288_107 (μ : wm_M) (Q : Option Value → wm_M → Prop) (h : wm_OkI 0 283 [.ref 89] μ (fun r2 μ1 => ((r2 = 0 ∨ r2 = 1) ∧ Q (some (.int r2)) μ1))) : wm_Wp 0 288 107 [.ref 89, .null, .null] μ Q := wm_vc mo_288 (rt := some .boolean) (by decide +kernel) mc_288 160 h
-- WindBoatModel.isSolved()Z
set_option maxRecDepth 100000 in
set_option maxHeartbeats 8000000 in
theorem f_289 (μ : wm_M) (Q : Option Value → wm_M → Prop) (h : wm_Wp 0 289 2 [.ref 89, .int (0 : Int32), .null, .null, .null] μ Q) : wm_Ok 0 289 [.ref 89] μ Q := wm_ent (nL := 5) (l := [.ref 89, .null, .null, .null, .null]) (by decide +kernel) (by decide +kernel) (by decide +kernel) rfl rfl (wm_vc mo_289 (rt := some .boolean) (by decide +kernel) mc_289 178 h)
-- WindBoatModel.isSolved()Z, the place 2
set_option maxRecDepth 100000 in
set_option maxHeartbeats 8000000 in
theorem f_289_2 (x1 : Int32) (μ : wm_M) (Q : Option Value → wm_M → Prop) (h : (((μ.1 89 39) ≤ x1 → wm_Wp 0 289 43 [.ref 89, .null, .null, .null, .null] μ Q) ∧ (¬ (μ.1 89 39) ≤ x1 → wm_Wp 0 289 12 [.ref 89, .int x1, .int (0 : Int32), .null, .null] μ Q))) : wm_Wp 0 289 2 [.ref 89, .int x1, .null, .null, .null] μ Q := wm_vc mo_289 (rt := some .boolean) (by decide +kernel) mc_289 178 h
-- WindBoatModel.isSolved()Z, the place 12
set_option maxRecDepth 100000 in
set_option maxHeartbeats 8000000 in
theorem f_289_12 (x1 : Int32) (x2 : Int32) (μ : wm_M) (Q : Option Value → wm_M → Prop) (h : (((μ.1 89 39) ≤ x2 → wm_Wp 0 289 37 [.ref 89, .int x1, .null, .null, .null] μ Q) ∧ (¬ (μ.1 89 39) ≤ x2 → wm_OkI 0 285 [.ref 89, .int x1, .int x2] μ (fun r2 μ1 => ((r2 = (0 : Int32) → wm_Wp 0 289 31 [.ref 89, .int x1, .int x2, .null, .null] μ1 Q) ∧ (¬ r2 = (0 : Int32) → wm_Wp 0 289 29 [.null, .null, .null, .null, .null] μ1 Q)))))) : wm_Wp 0 289 12 [.ref 89, .int x1, .int x2, .null, .null] μ Q := wm_vc mo_289 (rt := some .boolean) (by decide +kernel) mc_289 178 h
-- WindBoatModel.isSolved()Z, the place 29
set_option maxRecDepth 100000 in
set_option maxHeartbeats 8000000 in
theorem f_289_29 (μ : wm_M) (Q : Option Value → wm_M → Prop) (h : (((1 : Int32) = 0 ∨ (1 : Int32) = 1) ∧ Q (some (.int (1 : Int32))) μ)) : wm_Wp 0 289 29 [.null, .null, .null, .null, .null] μ Q := wm_vc mo_289 (rt := some .boolean) (by decide +kernel) mc_289 178 h
-- WindBoatModel.isSolved()Z, the place 31
set_option maxRecDepth 100000 in
set_option maxHeartbeats 8000000 in
theorem f_289_31 (x1 : Int32) (x2 : Int32) (μ : wm_M) (Q : Option Value → wm_M → Prop) (h : wm_Wp 0 289 12 [.ref 89, .int x1, .int (x2 + (1 : Int32)), .null, .null] μ Q) : wm_Wp 0 289 31 [.ref 89, .int x1, .int x2, .null, .null] μ Q := wm_vc mo_289 (rt := some .boolean) (by decide +kernel) mc_289 178 h
-- WindBoatModel.isSolved()Z, the place 37
set_option maxRecDepth 100000 in
set_option maxHeartbeats 8000000 in
theorem f_289_37 (x1 : Int32) (μ : wm_M) (Q : Option Value → wm_M → Prop) (h : wm_Wp 0 289 2 [.ref 89, .int (x1 + (1 : Int32)), .null, .null, .null] μ Q) : wm_Wp 0 289 37 [.ref 89, .int x1, .null, .null, .null] μ Q := wm_vc mo_289 (rt := some .boolean) (by decide +kernel) mc_289 178 h
-- WindBoatModel.isSolved()Z, the place 43
set_option maxRecDepth 100000 in
set_option maxHeartbeats 8000000 in
theorem f_289_43 (μ : wm_M) (Q : Option Value → wm_M → Prop) (h : wm_Wp 0 289 45 [.ref 89, .int (0 : Int32), .null, .null, .null] μ Q) : wm_Wp 0 289 43 [.ref 89, .null, .null, .null, .null] μ Q := wm_vc mo_289 (rt := some .boolean) (by decide +kernel) mc_289 178 h
-- WindBoatModel.isSolved()Z, the place 45
set_option maxRecDepth 100000 in
set_option maxHeartbeats 8000000 in
theorem f_289_45 (x1 : Int32) (μ : wm_M) (Q : Option Value → wm_M → Prop) (h : (((μ.1 89 39) ≤ x1 → wm_Wp 0 289 127 [.ref 89, .null, .null, .null, .null] μ Q) ∧ (¬ (μ.1 89 39) ≤ x1 → wm_Wp 0 289 57 [.ref 89, .int x1, .int (x1 + (1 : Int32)), .null, .null] μ Q))) : wm_Wp 0 289 45 [.ref 89, .int x1, .null, .null, .null] μ Q := wm_vc mo_289 (rt := some .boolean) (by decide +kernel) mc_289 178 h
-- WindBoatModel.isSolved()Z, the place 57
set_option maxRecDepth 100000 in
set_option maxHeartbeats 8000000 in
theorem f_289_57 (x1 : Int32) (x2 : Int32) (μ : wm_M) (Q : Option Value → wm_M → Prop) (h : (((μ.1 89 39) ≤ x2 → wm_Wp 0 289 121 [.ref 89, .int x1, .null, .null, .null] μ Q) ∧ (¬ (μ.1 89 39) ≤ x2 → wm_Wp 0 289 67 [.ref 89, .int x1, .int x2, .int (0 : Int32), .null] μ Q))) : wm_Wp 0 289 57 [.ref 89, .int x1, .int x2, .null, .null] μ Q := wm_vc mo_289 (rt := some .boolean) (by decide +kernel) mc_289 178 h
-- WindBoatModel.isSolved()Z, the place 67
set_option maxRecDepth 100000 in
set_option maxHeartbeats 8000000 in
theorem f_289_67 (x1 : Int32) (x2 : Int32) (x3 : Int32) (μ : wm_M) (Q : Option Value → wm_M → Prop) (h : (((μ.1 89 39) ≤ x3 → wm_Wp 0 289 115 [.ref 89, .int x1, .int x2, .null, .null] μ Q) ∧ (¬ (μ.1 89 39) ≤ x3 → wm_Wp 0 289 80 [.ref 89, .int x1, .int x2, .int x3, .int (x3 + (1 : Int32))] μ Q))) : wm_Wp 0 289 67 [.ref 89, .int x1, .int x2, .int x3, .null] μ Q := wm_vc mo_289 (rt := some .boolean) (by decide +kernel) mc_289 178 h
-- WindBoatModel.isSolved()Z, the place 80
set_option maxRecDepth 100000 in
set_option maxHeartbeats 8000000 in
theorem f_289_80 (x1 : Int32) (x2 : Int32) (x3 : Int32) (x4 : Int32) (μ : wm_M) (Q : Option Value → wm_M → Prop) (h : (((μ.1 89 39) ≤ x4 → wm_Wp 0 289 109 [.ref 89, .int x1, .int x2, .int x3, .null] μ Q) ∧ (¬ (μ.1 89 39) ≤ x4 → wm_OkI 0 286 [.ref 89, .int x1, .int x2, .int x3, .int x4] μ (fun r2 μ1 => ((r2 = (0 : Int32) → wm_Wp 0 289 103 [.ref 89, .int x1, .int x2, .int x3, .int x4] μ1 Q) ∧ (¬ r2 = (0 : Int32) → wm_Wp 0 289 101 [.null, .null, .null, .null, .null] μ1 Q)))))) : wm_Wp 0 289 80 [.ref 89, .int x1, .int x2, .int x3, .int x4] μ Q := wm_vc mo_289 (rt := some .boolean) (by decide +kernel) mc_289 178 h
-- WindBoatModel.isSolved()Z, the place 101
set_option maxRecDepth 100000 in
set_option maxHeartbeats 8000000 in
theorem f_289_101 (μ : wm_M) (Q : Option Value → wm_M → Prop) (h : (((1 : Int32) = 0 ∨ (1 : Int32) = 1) ∧ Q (some (.int (1 : Int32))) μ)) : wm_Wp 0 289 101 [.null, .null, .null, .null, .null] μ Q := wm_vc mo_289 (rt := some .boolean) (by decide +kernel) mc_289 178 h
-- WindBoatModel.isSolved()Z, the place 103
set_option maxRecDepth 100000 in
set_option maxHeartbeats 8000000 in
theorem f_289_103 (x1 : Int32) (x2 : Int32) (x3 : Int32) (x4 : Int32) (μ : wm_M) (Q : Option Value → wm_M → Prop) (h : wm_Wp 0 289 80 [.ref 89, .int x1, .int x2, .int x3, .int (x4 + (1 : Int32))] μ Q) : wm_Wp 0 289 103 [.ref 89, .int x1, .int x2, .int x3, .int x4] μ Q := wm_vc mo_289 (rt := some .boolean) (by decide +kernel) mc_289 178 h
-- WindBoatModel.isSolved()Z, the place 109
set_option maxRecDepth 100000 in
set_option maxHeartbeats 8000000 in
theorem f_289_109 (x1 : Int32) (x2 : Int32) (x3 : Int32) (μ : wm_M) (Q : Option Value → wm_M → Prop) (h : wm_Wp 0 289 67 [.ref 89, .int x1, .int x2, .int (x3 + (1 : Int32)), .null] μ Q) : wm_Wp 0 289 109 [.ref 89, .int x1, .int x2, .int x3, .null] μ Q := wm_vc mo_289 (rt := some .boolean) (by decide +kernel) mc_289 178 h
-- WindBoatModel.isSolved()Z, the place 115
set_option maxRecDepth 100000 in
set_option maxHeartbeats 8000000 in
theorem f_289_115 (x1 : Int32) (x2 : Int32) (μ : wm_M) (Q : Option Value → wm_M → Prop) (h : wm_Wp 0 289 57 [.ref 89, .int x1, .int (x2 + (1 : Int32)), .null, .null] μ Q) : wm_Wp 0 289 115 [.ref 89, .int x1, .int x2, .null, .null] μ Q := wm_vc mo_289 (rt := some .boolean) (by decide +kernel) mc_289 178 h
-- WindBoatModel.isSolved()Z, the place 121
set_option maxRecDepth 100000 in
set_option maxHeartbeats 8000000 in
theorem f_289_121 (x1 : Int32) (μ : wm_M) (Q : Option Value → wm_M → Prop) (h : wm_Wp 0 289 45 [.ref 89, .int (x1 + (1 : Int32)), .null, .null, .null] μ Q) : wm_Wp 0 289 121 [.ref 89, .int x1, .null, .null, .null] μ Q := wm_vc mo_289 (rt := some .boolean) (by decide +kernel) mc_289 178 h
-- WindBoatModel.isSolved()Z, the place 127
set_option maxRecDepth 100000 in
set_option maxHeartbeats 8000000 in
theorem f_289_127 (μ : wm_M) (Q : Option Value → wm_M → Prop) (h : (((μ.1 89 39) = (3 : Int32) → wm_OkI 0 288 [.ref 89] μ (fun r2 μ1 => ((r2 = (0 : Int32) → wm_Wp 0 289 146 [.null, .null, .null, .null, .null] μ1 Q) ∧ (¬ r2 = (0 : Int32) → wm_Wp 0 289 142 [.null, .null, .null, .null, .null] μ1 Q)))) ∧ (¬ (μ.1 89 39) = (3 : Int32) → wm_Wp 0 289 146 [.null, .null, .null, .null, .null] μ Q))) : wm_Wp 0 289 127 [.ref 89, .null, .null, .null, .null] μ Q := wm_vc mo_289 (rt := some .boolean) (by decide +kernel) mc_289 178 h
-- WindBoatModel.isSolved()Z, the place 142
set_option maxRecDepth 100000 in
set_option maxHeartbeats 8000000 in
theorem f_289_142 (μ : wm_M) (Q : Option Value → wm_M → Prop) (h : (((1 : Int32) = 0 ∨ (1 : Int32) = 1) ∧ Q (some (.int (1 : Int32))) μ)) : wm_Wp 0 289 142 [.null, .null, .null, .null, .null] μ Q := wm_vc mo_289 (rt := some .boolean) (by decide +kernel) mc_289 178 h
-- WindBoatModel.isSolved()Z, the place 146
set_option maxRecDepth 100000 in
set_option maxHeartbeats 8000000 in
theorem f_289_146 (μ : wm_M) (Q : Option Value → wm_M → Prop) (h : (((0 : Int32) = 0 ∨ (0 : Int32) = 1) ∧ Q (some (.int (0 : Int32))) μ)) : wm_Wp 0 289 146 [.null, .null, .null, .null, .null] μ Q := wm_vc mo_289 (rt := some .boolean) (by decide +kernel) mc_289 178 h
-- WindBoatModel.game()I
set_option maxRecDepth 100000 in
set_option maxHeartbeats 8000000 in
theorem f_290 (μ : wm_M) (Q : Option Value → wm_M → Prop) (h : (((μ.1 89 49) = (0 : Int32) → wm_OkI 0 186 [.ref 89, .int (-2 : Int32)] μ (fun r2 μ1 => Q (some (.int r2)) μ1)) ∧ (¬ (μ.1 89 49) = (0 : Int32) → wm_Wp 0 290 14 [.ref 89, .null] μ Q))) : wm_Ok 0 290 [.ref 89] μ Q := wm_ent (nL := 2) (l := [.ref 89, .null]) (by decide +kernel) (by decide +kernel) (by decide +kernel) rfl rfl (wm_vc mo_290 (rt := some .int) (by decide +kernel) mc_290 148 h)
-- WindBoatModel.game()I, the place 14
set_option maxRecDepth 100000 in
set_option maxHeartbeats 8000000 in
theorem f_290_14 (μ : wm_M) (Q : Option Value → wm_M → Prop) (h : (((μ.1 89 48) = (4 : Int32) → wm_Wp 0 290 38 [.ref 89, .null] μ Q) ∧ (¬ (μ.1 89 48) = (4 : Int32) → (((μ.1 89 48) = (9 : Int32) → wm_Wp 0 290 38 [.ref 89, .null] μ Q) ∧ (¬ (μ.1 89 48) = (9 : Int32) → wm_OkI 0 186 [.ref 89, .int (-5 : Int32)] μ (fun r2 μ1 => Q (some (.int r2)) μ1)))))) : wm_Wp 0 290 14 [.ref 89, .null] μ Q := wm_vc mo_290 (rt := some .int) (by decide +kernel) mc_290 148 h
-- WindBoatModel.game()I, the place 38
set_option maxRecDepth 100000 in
set_option maxHeartbeats 8000000 in
theorem f_290_38 (μ : wm_M) (Q : Option Value → wm_M → Prop) (h : wm_Wp 0 290 40 [.ref 89, .int (0 : Int32)] μ Q) : wm_Wp 0 290 38 [.ref 89, .null] μ Q := wm_vc mo_290 (rt := some .int) (by decide +kernel) mc_290 148 h
-- WindBoatModel.game()I, the place 40
set_option maxRecDepth 100000 in
set_option maxHeartbeats 8000000 in
theorem f_290_40 (x1 : Int32) (μ : wm_M) (Q : Option Value → wm_M → Prop) (h : (((μ.1 89 48) ≤ x1 → wm_Wp 0 290 79 [.ref 89, .null] μ Q) ∧ (¬ (μ.1 89 48) ≤ x1 → (vp_in x1 12 ∧ wm_OkI 0 184 [.int (μ.1 111 (x1).toNatClampNeg), .int (-999 : Int32), .int (999 : Int32)] μ (fun r2 μ1 => ((r2 = (0 : Int32) → wm_Wp 0 290 66 [.ref 89, .null] μ1 Q) ∧ (¬ r2 = (0 : Int32) → wm_Wp 0 290 73 [.ref 89, .int x1] μ1 Q))))))) : wm_Wp 0 290 40 [.ref 89, .int x1] μ Q := wm_vc mo_290 (rt := some .int) (by decide +kernel) mc_290 148 h
-- WindBoatModel.game()I, the place 66
set_option maxRecDepth 100000 in
set_option maxHeartbeats 8000000 in
theorem f_290_66 (μ : wm_M) (Q : Option Value → wm_M → Prop) (h : wm_OkI 0 186 [.ref 89, .int (-7 : Int32)] μ (fun r2 μ1 => Q (some (.int r2)) μ1)) : wm_Wp 0 290 66 [.ref 89, .null] μ Q := wm_vc mo_290 (rt := some .int) (by decide +kernel) mc_290 148 h
-- WindBoatModel.game()I, the place 73
set_option maxRecDepth 100000 in
set_option maxHeartbeats 8000000 in
theorem f_290_73 (x1 : Int32) (μ : wm_M) (Q : Option Value → wm_M → Prop) (h : wm_Wp 0 290 40 [.ref 89, .int (x1 + (1 : Int32))] μ Q) : wm_Wp 0 290 73 [.ref 89, .int x1] μ Q := wm_vc mo_290 (rt := some .int) (by decide +kernel) mc_290 148 h
-- WindBoatModel.game()I, the place 79
set_option maxRecDepth 100000 in
set_option maxHeartbeats 8000000 in
theorem f_290_79 (μ : wm_M) (Q : Option Value → wm_M → Prop) (h : (((μ.1 89 48) = (4 : Int32) → wm_Wp 0 290 96 [.ref 89, .null] (wm_si μ 89 39 (2 : Int32)) Q) ∧ (¬ (μ.1 89 48) = (4 : Int32) → wm_Wp 0 290 96 [.ref 89, .null] (wm_si μ 89 39 (3 : Int32)) Q))) : wm_Wp 0 290 79 [.ref 89, .null] μ Q := wm_vc mo_290 (rt := some .int) (by decide +kernel) mc_290 148 h
-- WindBoatModel.game()I, the place 96
set_option maxRecDepth 100000 in
set_option maxHeartbeats 8000000 in
theorem f_290_96 (μ : wm_M) (Q : Option Value → wm_M → Prop) (h : wm_OkI 0 289 [.ref 89] μ (fun r2 μ1 => wm_Wp 0 290 101 [.ref 89, .int r2] μ1 Q)) : wm_Wp 0 290 96 [.ref 89, .null] μ Q := wm_vc mo_290 (rt := some .int) (by decide +kernel) mc_290 148 h
-- WindBoatModel.game()I, the place 101
set_option maxRecDepth 100000 in
set_option maxHeartbeats 8000000 in
theorem f_290_101 (x1 : Int32) (μ : wm_M) (Q : Option Value → wm_M → Prop) (h : ((x1 = (0 : Int32) → wm_Wp 0 290 124 [.null, .null] μ Q) ∧ (¬ x1 = (0 : Int32) → wm_OkJ 0 282 [.long ((1000 : Int64) * (μ.2 89 40)), .long (μ.2 89 41)] μ (fun r2 μ1 => Q (some (.int (r2).toInt32)) μ1)))) : wm_Wp 0 290 101 [.ref 89, .int x1] μ Q := wm_vc mo_290 (rt := some .int) (by decide +kernel) mc_290 148 h
-- WindBoatModel.game()I, the place 124
set_option maxRecDepth 100000 in
set_option maxHeartbeats 8000000 in
theorem f_290_124 (μ : wm_M) (Q : Option Value → wm_M → Prop) (h : Q (some (.int (0 : Int32))) μ) : wm_Wp 0 290 124 [.null, .null] μ Q := wm_vc mo_290 (rt := some .int) (by decide +kernel) mc_290 148 h
-- WindBoatModel.at(II)I
set_option maxRecDepth 100000 in
set_option maxHeartbeats 8000000 in
theorem f_291 (a1 : Int32) (a2 : Int32) (μ : wm_M) (Q : Option Value → wm_M → Prop) (h : (¬ (100 : Int32) = 0 ∧ (¬ (10 : Int32) = 0 ∧ (¬ (10 : Int32) = 0 ∧ (¬ (10 : Int32) = 0 ∧ wm_Wp 0 291 20 [.ref 89, .int a1, .int a2, .int (a1 / (100 : Int32)), .int ((a1 / (10 : Int32)) - (a1 / (10 : Int32)) / (10 : Int32) * (10 : Int32)), .int (a1 - a1 / (10 : Int32) * (10 : Int32))] μ Q))))) : wm_Ok 0 291 [.ref 89, .int a1, .int a2] μ Q := wm_ent (nL := 6) (l := [.ref 89, .int a1, .int a2, .null, .null, .null]) (by decide +kernel) (by decide +kernel) (by decide +kernel) rfl rfl (wm_vc mo_291 (rt := some .int) (by decide +kernel) mc_291 216 h)
-- WindBoatModel.at(II)I, the place 20
set_option maxRecDepth 100000 in
set_option maxHeartbeats 8000000 in
theorem f_291_20 (x1 : Int32) (x2 : Int32) (x3 : Int32) (x4 : Int32) (x5 : Int32) (μ : wm_M) (Q : Option Value → wm_M → Prop) (h : ((x1 < (0 : Int32) → wm_Wp 0 291 47 [.ref 89, .null, .null, .null, .null, .null] μ Q) ∧ (¬ x1 < (0 : Int32) → wm_OkI 0 189 [.int x3] μ (fun r2 μ1 => ((r2 = (0 : Int32) → wm_Wp 0 291 47 [.ref 89, .null, .null, .null, .null, .null] μ1 Q) ∧ (¬ r2 = (0 : Int32) → wm_Wp 0 291 31 [.ref 89, .null, .int x2, .int x3, .int x4, .int x5] μ1 Q)))))) : wm_Wp 0 291 20 [.ref 89, .int x1, .int x2, .int x3, .int x4, .int x5] μ Q := wm_vc mo_291 (rt := some .int) (by decide +kernel) mc_291 216 h
-- WindBoatModel.at(II)I, the place 31
set_option maxRecDepth 100000 in
set_option maxHeartbeats 8000000 in
theorem f_291_31 (x2 : Int32) (x3 : Int32) (x4 : Int32) (x5 : Int32) (μ : wm_M) (Q : Option Value → wm_M → Prop) (h : (((8 : Int32) ≤ x4 → wm_Wp 0 291 47 [.ref 89, .null, .null, .null, .null, .null] μ Q) ∧ (¬ (8 : Int32) ≤ x4 → wm_OkI 0 191 [.ref 89, .int x5] μ (fun r2 μ1 => ((r2 = (0 : Int32) → wm_Wp 0 291 47 [.ref 89, .null, .null, .null, .null, .null] μ1 Q) ∧ (¬ r2 = (0 : Int32) → wm_Wp 0 291 54 [.ref 89, .null, .int x2, .int x3, .int x4, .int x5] μ1 Q)))))) : wm_Wp 0 291 31 [.ref 89, .null, .int x2, .int x3, .int x4, .int x5] μ Q := wm_vc mo_291 (rt := some .int) (by decide +kernel) mc_291 216 h
-- WindBoatModel.at(II)I, the place 47
set_option maxRecDepth 100000 in
set_option maxHeartbeats 8000000 in
theorem f_291_47 (μ : wm_M) (Q : Option Value → wm_M → Prop) (h : wm_OkI 0 185 [.ref 89, .int (-3 : Int32)] μ (fun r2 μ1 => Q (some (.int r2)) μ1)) : wm_Wp 0 291 47 [.ref 89, .null, .null, .null, .null, .null] μ Q := wm_vc mo_291 (rt := some .int) (by decide +kernel) mc_291 216 h
-- WindBoatModel.at(II)I, the place 54
set_option maxRecDepth 100000 in
set_option maxHeartbeats 8000000 in
theorem f_291_54 (x2 : Int32) (x3 : Int32) (x4 : Int32) (x5 : Int32) (μ : wm_M) (Q : Option Value → wm_M → Prop) (h : (vp_in ((0 : Int32) + x3) 2060 ∧ (((μ.1 91 (((0 : Int32) + x3)).toNatClampNeg) = (1 : Int32) → wm_OkI 0 185 [.ref 89, .int (-5 : Int32)] μ (fun r2 μ1 => Q (some (.int r2)) μ1)) ∧ (¬ (μ.1 91 (((0 : Int32) + x3)).toNatClampNeg) = (1 : Int32) → wm_Wp 0 291 73 [.ref 89, .null, .int x2, .int x3, .int x4, .int x5] μ Q)))) : wm_Wp 0 291 54 [.ref 89, .null, .int x2, .int x3, .int x4, .int x5] μ Q := wm_vc mo_291 (rt := some .int) (by decide +kernel) mc_291 216 h
-- WindBoatModel.at(II)I, the place 73
set_option maxRecDepth 100000 in
set_option maxHeartbeats 8000000 in
theorem f_291_73 (x2 : Int32) (x3 : Int32) (x4 : Int32) (x5 : Int32) (μ : wm_M) (Q : Option Value → wm_M → Prop) (h : (vp_in ((452 : Int32) + x5) 2060 ∧ (((μ.1 91 (((452 : Int32) + x5)).toNatClampNeg) = (1 : Int32) → wm_Wp 0 291 98 [.ref 89, .null, .null, .null, .null, .null] μ Q) ∧ (¬ (μ.1 91 (((452 : Int32) + x5)).toNatClampNeg) = (1 : Int32) → wm_OkI 0 184 [.int x2, .int (0 : Int32), .int (120 : Int32)] μ (fun r2 μ1 => ((r2 = (0 : Int32) → wm_Wp 0 291 98 [.ref 89, .null, .null, .null, .null, .null] μ1 Q) ∧ (¬ r2 = (0 : Int32) → wm_Wp 0 291 105 [.ref 89, .null, .int x2, .int x3, .int x4, .int x5] μ1 Q))))))) : wm_Wp 0 291 73 [.ref 89, .null, .int x2, .int x3, .int x4, .int x5] μ Q := wm_vc mo_291 (rt := some .int) (by decide +kernel) mc_291 216 h
-- WindBoatModel.at(II)I, the place 98
set_option maxRecDepth 100000 in
set_option maxHeartbeats 8000000 in
theorem f_291_98 (μ : wm_M) (Q : Option Value → wm_M → Prop) (h : wm_OkI 0 185 [.ref 89, .int (-7 : Int32)] μ (fun r2 μ1 => Q (some (.int r2)) μ1)) : wm_Wp 0 291 98 [.ref 89, .null, .null, .null, .null, .null] μ Q := wm_vc mo_291 (rt := some .int) (by decide +kernel) mc_291 216 h
-- WindBoatModel.at(II)I, the place 105
set_option maxRecDepth 100000 in
set_option maxHeartbeats 8000000 in
theorem f_291_105 (x2 : Int32) (x3 : Int32) (x4 : Int32) (x5 : Int32) (μ : wm_M) (Q : Option Value → wm_M → Prop) (h : (vp_in (2046 : Int32) 2060 ∧ wm_Wp 0 291 114 [.ref 89, .null, .int x2, .int x3, .int x4, .int x5] (wm_si μ 91 ((2046 : Int32)).toNatClampNeg (1 : Int32)) Q)) : wm_Wp 0 291 105 [.ref 89, .null, .int x2, .int x3, .int x4, .int x5] μ Q := wm_vc mo_291 (rt := some .int) (by decide +kernel) mc_291 216 h
-- WindBoatModel.at(II)I, the place 114
set_option maxRecDepth 100000 in
set_option maxHeartbeats 8000000 in
theorem f_291_114 (x2 : Int32) (x3 : Int32) (x4 : Int32) (x5 : Int32) (μ : wm_M) (Q : Option Value → wm_M → Prop) (h : (vp_in (2047 : Int32) 2060 ∧ wm_Wp 0 291 123 [.ref 89, .null, .int x2, .null, .int x4, .int x5] (wm_si μ 91 ((2047 : Int32)).toNatClampNeg x3) Q)) : wm_Wp 0 291 114 [.ref 89, .null, .int x2, .int x3, .int x4, .int x5] μ Q := wm_vc mo_291 (rt := some .int) (by decide +kernel) mc_291 216 h
-- WindBoatModel.at(II)I, the place 123
set_option maxRecDepth 100000 in
set_option maxHeartbeats 8000000 in
theorem f_291_123 (x2 : Int32) (x4 : Int32) (x5 : Int32) (μ : wm_M) (Q : Option Value → wm_M → Prop) (h : (vp_in (2048 : Int32) 2060 ∧ wm_Wp 0 291 133 [.ref 89, .null, .int x2, .null, .null, .int x5] (wm_si μ 91 ((2048 : Int32)).toNatClampNeg x4) Q)) : wm_Wp 0 291 123 [.ref 89, .null, .int x2, .null, .int x4, .int x5] μ Q := wm_vc mo_291 (rt := some .int) (by decide +kernel) mc_291 216 h
-- WindBoatModel.at(II)I, the place 133
set_option maxRecDepth 100000 in
set_option maxHeartbeats 8000000 in
theorem f_291_133 (x2 : Int32) (x5 : Int32) (μ : wm_M) (Q : Option Value → wm_M → Prop) (h : (vp_in (2049 : Int32) 2060 ∧ wm_Wp 0 291 143 [.ref 89, .null, .int x2, .null, .null, .null] (wm_si μ 91 ((2049 : Int32)).toNatClampNeg x5) Q)) : wm_Wp 0 291 133 [.ref 89, .null, .int x2, .null, .null, .int x5] μ Q := wm_vc mo_291 (rt := some .int) (by decide +kernel) mc_291 216 h
-- WindBoatModel.at(II)I, the place 143
set_option maxRecDepth 100000 in
set_option maxHeartbeats 8000000 in
theorem f_291_143 (x2 : Int32) (μ : wm_M) (Q : Option Value → wm_M → Prop) (h : (vp_in (2050 : Int32) 2060 ∧ wm_Wp 0 291 152 [.ref 89, .null, .int x2, .null, .null, .null] (wm_si μ 91 ((2050 : Int32)).toNatClampNeg x2) Q)) : wm_Wp 0 291 143 [.ref 89, .null, .int x2, .null, .null, .null] μ Q := wm_vc mo_291 (rt := some .int) (by decide +kernel) mc_291 216 h
-- WindBoatModel.at(II)I, the place 152
set_option maxRecDepth 100000 in
set_option maxHeartbeats 8000000 in
theorem f_291_152 (x2 : Int32) (μ : wm_M) (Q : Option Value → wm_M → Prop) (h : wm_OkI 0 257 [.ref 89] μ (fun r2 μ1 => (vp_in (2051 : Int32) 2060 ∧ wm_Wp 0 291 164 [.ref 89, .null, .int x2, .null, .null, .null] (wm_si μ1 91 ((2051 : Int32)).toNatClampNeg r2) Q))) : wm_Wp 0 291 152 [.ref 89, .null, .int x2, .null, .null, .null] μ Q := wm_vc mo_291 (rt := some .int) (by decide +kernel) mc_291 216 h
-- WindBoatModel.at(II)I, the place 164
set_option maxRecDepth 100000 in
set_option maxHeartbeats 8000000 in
theorem f_291_164 (x2 : Int32) (μ : wm_M) (Q : Option Value → wm_M → Prop) (h : (vp_in (2052 : Int32) 2060 ∧ wm_Wp 0 291 173 [.ref 89, .null, .null, .null, .null, .null] (wm_si μ 91 ((2052 : Int32)).toNatClampNeg x2) Q)) : wm_Wp 0 291 164 [.ref 89, .null, .int x2, .null, .null, .null] μ Q := wm_vc mo_291 (rt := some .int) (by decide +kernel) mc_291 216 h
-- WindBoatModel.at(II)I, the place 173
set_option maxRecDepth 100000 in
set_option maxHeartbeats 8000000 in
theorem f_291_173 (μ : wm_M) (Q : Option Value → wm_M → Prop) (h : wm_OkI 0 257 [.ref 89] μ (fun r2 μ1 => Q (some (.int r2)) μ1)) : wm_Wp 0 291 173 [.ref 89, .null, .null, .null, .null, .null] μ Q := wm_vc mo_291 (rt := some .int) (by decide +kernel) mc_291 216 h
-- WindBoatModel.tears(III)Z
set_option maxRecDepth 100000 in
set_option maxHeartbeats 8000000 in
theorem f_292 (a1 : Int32) (a2 : Int32) (a3 : Int32) (μ : wm_M) (Q : Option Value → wm_M → Prop) (h : wm_OkI 0 200 [.ref 89, .int (6 : Int32), .int a3, .int a2] μ (fun r2 μ1 => wm_OkI 0 212 [.ref 89, .int a1] μ1 (fun r4 μ3 => ((r2 ≤ r4 → wm_Wp 0 292 20 [.null, .null, .null, .null] μ3 Q) ∧ (¬ r2 ≤ r4 → wm_Wp 0 292 16 [.null, .null, .null, .null] μ3 Q))))) : wm_Ok 0 292 [.ref 89, .int a1, .int a2, .int a3] μ Q := wm_ent (nL := 4) (l := [.ref 89, .int a1, .int a2, .int a3]) (by decide +kernel) (by decide +kernel) (by decide +kernel) rfl rfl (wm_vc mo_292 (rt := some .boolean) (by decide +kernel) mc_292 46 h)
-- WindBoatModel.tears(III)Z, the place 16
set_option maxRecDepth 100000 in
set_option maxHeartbeats 8000000 in
theorem f_292_16 (μ : wm_M) (Q : Option Value → wm_M → Prop) (h : (((1 : Int32) = 0 ∨ (1 : Int32) = 1) ∧ Q (some (.int (1 : Int32))) μ)) : wm_Wp 0 292 16 [.null, .null, .null, .null] μ Q := wm_vc mo_292 (rt := some .boolean) (by decide +kernel) mc_292 46 h
-- WindBoatModel.tears(III)Z, the place 20
set_option maxRecDepth 100000 in
set_option maxHeartbeats 8000000 in
theorem f_292_20 (μ : wm_M) (Q : Option Value → wm_M → Prop) (h : (((0 : Int32) = 0 ∨ (0 : Int32) = 1) ∧ Q (some (.int (0 : Int32))) μ)) : wm_Wp 0 292 20 [.null, .null, .null, .null] μ Q := wm_vc mo_292 (rt := some .boolean) (by decide +kernel) mc_292 46 h
-- WindBoatModel.pass(I)V
set_option maxRecDepth 100000 in
set_option maxHeartbeats 8000000 in
theorem f_293 (a1 : Int32) (μ : wm_M) (Q : Option Value → wm_M → Prop) (h : wm_Wp 0 293 2 [.ref 89, .int a1, .int (0 : Int32), .null, .null] μ Q) : wm_Ok 0 293 [.ref 89, .int a1] μ Q := wm_ent (nL := 5) (l := [.ref 89, .int a1, .null, .null, .null]) (by decide +kernel) (by decide +kernel) (by decide +kernel) rfl rfl (wm_vc mo_293 (rt := none) (by decide +kernel) mc_293 174 h)
-- WindBoatModel.pass(I)V, the place 2
set_option maxRecDepth 100000 in
set_option maxHeartbeats 8000000 in
theorem f_293_2 (x1 : Int32) (x2 : Int32) (μ : wm_M) (Q : Option Value → wm_M → Prop) (h : ((x1 ≤ x2 → wm_Wp 0 293 140 [.null, .null, .null, .null, .null] μ Q) ∧ (¬ x1 ≤ x2 → wm_Wp 0 293 9 [.ref 89, .int x1, .int x2, .int (0 : Int32), .null] μ Q))) : wm_Wp 0 293 2 [.ref 89, .int x1, .int x2, .null, .null] μ Q := wm_vc mo_293 (rt := none) (by decide +kernel) mc_293 174 h
-- WindBoatModel.pass(I)V, the place 9
set_option maxRecDepth 100000 in
set_option maxHeartbeats 8000000 in
theorem f_293_9 (x1 : Int32) (x2 : Int32) (x3 : Int32) (μ : wm_M) (Q : Option Value → wm_M → Prop) (h : wm_OkI 0 188 [.ref 89, .int (1 : Int32)] μ (fun r2 μ1 => ((r2 ≤ x3 → wm_Wp 0 293 78 [.ref 89, .int x1, .int x2, .null, .null] μ1 Q) ∧ (¬ r2 ≤ x3 → wm_Wp 0 293 18 [.ref 89, .int x1, .int x2, .int x3, .null] μ1 Q)))) : wm_Wp 0 293 9 [.ref 89, .int x1, .int x2, .int x3, .null] μ Q := wm_vc mo_293 (rt := none) (by decide +kernel) mc_293 174 h
-- WindBoatModel.pass(I)V, the place 18
set_option maxRecDepth 100000 in
set_option maxHeartbeats 8000000 in
theorem f_293_18 (x1 : Int32) (x2 : Int32) (x3 : Int32) (μ : wm_M) (Q : Option Value → wm_M → Prop) (h : (vp_in ((455 : Int32) + x3) 2060 ∧ (vp_in ((463 : Int32) + x3) 2060 ∧ (((μ.1 91 (((463 : Int32) + x3)).toNatClampNeg) = (1 : Int32) → (((0 : Int32) ≤ ((μ.1 91 (((455 : Int32) + x3)).toNatClampNeg) + (-2 : Int32)) → (vp_in ((455 : Int32) + x3) 2060 ∧ wm_Wp 0 293 72 [.ref 89, .int x1, .int x2, .int x3, .null] (wm_si μ 91 (((455 : Int32) + x3)).toNatClampNeg ((μ.1 91 (((455 : Int32) + x3)).toNatClampNeg) + (-2 : Int32))) Q)) ∧ (¬ (0 : Int32) ≤ ((μ.1 91 (((455 : Int32) + x3)).toNatClampNeg) + (-2 : Int32)) → (vp_in ((455 : Int32) + x3) 2060 ∧ wm_Wp 0 293 72 [.ref 89, .int x1, .int x2, .int x3, .null] (wm_si μ 91 (((455 : Int32) + x3)).toNatClampNeg (0 : Int32)) Q)))) ∧ (¬ (μ.1 91 (((463 : Int32) + x3)).toNatClampNeg) = (1 : Int32) → (((0 : Int32) ≤ ((μ.1 91 (((455 : Int32) + x3)).toNatClampNeg) + (1 : Int32)) → (vp_in ((455 : Int32) + x3) 2060 ∧ wm_Wp 0 293 72 [.ref 89, .int x1, .int x2, .int x3, .null] (wm_si μ 91 (((455 : Int32) + x3)).toNatClampNeg ((μ.1 91 (((455 : Int32) + x3)).toNatClampNeg) + (1 : Int32))) Q)) ∧ (¬ (0 : Int32) ≤ ((μ.1 91 (((455 : Int32) + x3)).toNatClampNeg) + (1 : Int32)) → (vp_in ((455 : Int32) + x3) 2060 ∧ wm_Wp 0 293 72 [.ref 89, .int x1, .int x2, .int x3, .null] (wm_si μ 91 (((455 : Int32) + x3)).toNatClampNeg (0 : Int32)) Q)))))))) : wm_Wp 0 293 18 [.ref 89, .int x1, .int x2, .int x3, .null] μ Q := wm_vc mo_293 (rt := none) (by decide +kernel) mc_293 174 h
-- WindBoatModel.pass(I)V, the place 72
set_option maxRecDepth 100000 in
set_option maxHeartbeats 8000000 in
theorem f_293_72 (x1 : Int32) (x2 : Int32) (x3 : Int32) (μ : wm_M) (Q : Option Value → wm_M → Prop) (h : wm_Wp 0 293 9 [.ref 89, .int x1, .int x2, .int (x3 + (1 : Int32)), .null] μ Q) : wm_Wp 0 293 72 [.ref 89, .int x1, .int x2, .int x3, .null] μ Q := wm_vc mo_293 (rt := none) (by decide +kernel) mc_293 174 h
-- WindBoatModel.pass(I)V, the place 78
set_option maxRecDepth 100000 in
set_option maxHeartbeats 8000000 in
theorem f_293_78 (x1 : Int32) (x2 : Int32) (μ : wm_M) (Q : Option Value → wm_M → Prop) (h : wm_OkI 0 188 [.ref 89, .int (9 : Int32)] μ (fun r2 μ1 => wm_OkI 0 188 [.ref 89, .int (7 : Int32)] μ1 (fun r4 μ3 => wm_OkI 0 188 [.ref 89, .int (10 : Int32)] μ3 (fun r6 μ5 => wm_OkI 0 192 [.int r6] μ5 (fun r8 μ7 => wm_OkI 0 292 [.ref 89, .int r2, .int r4, .int r8] μ7 (fun r10 μ9 => ((r10 = (0 : Int32) → wm_Wp 0 293 122 [.ref 89, .int x1, .int x2, .null, .null] μ9 Q) ∧ (¬ r10 = (0 : Int32) → wm_Wp 0 293 106 [.ref 89, .int x1, .int x2, .null, .null] μ9 Q)))))))) : wm_Wp 0 293 78 [.ref 89, .int x1, .int x2, .null, .null] μ Q := wm_vc mo_293 (rt := none) (by decide +kernel) mc_293 174 h
-- WindBoatModel.pass(I)V, the place 106
set_option maxRecDepth 100000 in
set_option maxHeartbeats 8000000 in
theorem f_293_106 (x1 : Int32) (x2 : Int32) (μ : wm_M) (Q : Option Value → wm_M → Prop) (h : wm_OkI 0 188 [.ref 89, .int (9 : Int32)] μ (fun r2 μ1 => (vp_in ((452 : Int32) + r2) 2060 ∧ wm_Wp 0 293 122 [.ref 89, .int x1, .int x2, .null, .null] (wm_si μ1 91 (((452 : Int32) + r2)).toNatClampNeg (1 : Int32)) Q))) : wm_Wp 0 293 106 [.ref 89, .int x1, .int x2, .null, .null] μ Q := wm_vc mo_293 (rt := none) (by decide +kernel) mc_293 174 h
-- WindBoatModel.pass(I)V, the place 122
set_option maxRecDepth 100000 in
set_option maxHeartbeats 8000000 in
theorem f_293_122 (x1 : Int32) (x2 : Int32) (μ : wm_M) (Q : Option Value → wm_M → Prop) (h : (vp_in (2050 : Int32) 2060 ∧ (vp_in (2050 : Int32) 2060 ∧ wm_Wp 0 293 134 [.ref 89, .int x1, .int x2, .null, .null] (wm_si μ 91 ((2050 : Int32)).toNatClampNeg ((μ.1 91 ((2050 : Int32)).toNatClampNeg) + (1 : Int32))) Q))) : wm_Wp 0 293 122 [.ref 89, .int x1, .int x2, .null, .null] μ Q := wm_vc mo_293 (rt := none) (by decide +kernel) mc_293 174 h
-- WindBoatModel.pass(I)V, the place 134
set_option maxRecDepth 100000 in
set_option maxHeartbeats 8000000 in
theorem f_293_134 (x1 : Int32) (x2 : Int32) (μ : wm_M) (Q : Option Value → wm_M → Prop) (h : wm_Wp 0 293 2 [.ref 89, .int x1, .int (x2 + (1 : Int32)), .null, .null] μ Q) : wm_Wp 0 293 134 [.ref 89, .int x1, .int x2, .null, .null] μ Q := wm_vc mo_293 (rt := none) (by decide +kernel) mc_293 174 h
-- WindBoatModel.pass(I)V, the place 140
set_option maxRecDepth 100000 in
set_option maxHeartbeats 8000000 in
theorem f_293_140 (μ : wm_M) (Q : Option Value → wm_M → Prop) (h : Q none μ) : wm_Wp 0 293 140 [.null, .null, .null, .null, .null] μ Q := wm_vc mo_293 (rt := none) (by decide +kernel) mc_293 174 h
