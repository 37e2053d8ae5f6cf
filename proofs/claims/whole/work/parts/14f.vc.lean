/-! ===== what each block of code asks (printed by wip/gen/genvc.py) ===== -/
-- WindBoat.count(I)I
set_option maxRecDepth 100000 in
set_option maxHeartbeats 8000000 in
theorem f_152 (a1 : Int32) (μ : wm_M) (Q : Option Value → wm_M → Prop) (h : (((a1).toInt < 0 ∨ 11 < (a1).toInt → wm_Wp 0 152 196 [.ref 0, .null] μ Q) ∧ (((a1).toInt = 0 → wm_Wp 0 152 64 [.ref 0, .null] μ Q) ∧ (((a1).toInt = 1 → wm_Wp 0 152 75 [.ref 0, .null] μ Q) ∧ (((a1).toInt = 2 → wm_Wp 0 152 86 [.ref 0, .null] μ Q) ∧ (((a1).toInt = 3 → wm_Wp 0 152 97 [.ref 0, .null] μ Q) ∧ (((a1).toInt = 4 → wm_Wp 0 152 108 [.ref 0, .null] μ Q) ∧ (((a1).toInt = 5 → wm_Wp 0 152 119 [.ref 0, .null] μ Q) ∧ (((a1).toInt = 6 → wm_Wp 0 152 130 [.ref 0, .null] μ Q) ∧ (((a1).toInt = 7 → wm_Wp 0 152 138 [.ref 0, .null] μ Q) ∧ (((a1).toInt = 8 → wm_Wp 0 152 149 [.ref 0, .null] μ Q) ∧ (((a1).toInt = 9 → wm_Wp 0 152 160 [.ref 0, .null] μ Q) ∧ (((a1).toInt = 10 → wm_Wp 0 152 171 [.ref 0, .null] μ Q) ∧ (((a1).toInt = 11 → wm_Wp 0 152 182 [.ref 0, .null] μ Q) ∧ True)))))))))))))) : wm_Ok 0 152 [.ref 0, .int a1] μ Q := wm_ent (nL := 2) (l := [.ref 0, .int a1]) (by decide +kernel) (by decide +kernel) (by decide +kernel) rfl rfl (wm_vc mo_152 (rt := some .int) (by decide +kernel) mc_152 152 h)
-- WindBoat.count(I)I, the place 64
set_option maxRecDepth 100000 in
set_option maxHeartbeats 8000000 in
theorem f_152_64 (μ : wm_M) (Q : Option Value → wm_M → Prop) (h : wm_OkI 0 79 [.ref 2] μ (fun r2 μ1 => Q (some (.int r2)) μ1)) : wm_Wp 0 152 64 [.ref 0, .null] μ Q := wm_vc mo_152 (rt := some .int) (by decide +kernel) mc_152 152 h
-- WindBoat.count(I)I, the place 75
set_option maxRecDepth 100000 in
set_option maxHeartbeats 8000000 in
theorem f_152_75 (μ : wm_M) (Q : Option Value → wm_M → Prop) (h : wm_OkI 0 77 [.ref 2] μ (fun r2 μ1 => Q (some (.int r2)) μ1)) : wm_Wp 0 152 75 [.ref 0, .null] μ Q := wm_vc mo_152 (rt := some .int) (by decide +kernel) mc_152 152 h
-- WindBoat.count(I)I, the place 86
set_option maxRecDepth 100000 in
set_option maxHeartbeats 8000000 in
theorem f_152_86 (μ : wm_M) (Q : Option Value → wm_M → Prop) (h : Q (some (.int (μ.1 13 10))) μ) : wm_Wp 0 152 86 [.ref 0, .null] μ Q := wm_vc mo_152 (rt := some .int) (by decide +kernel) mc_152 152 h
-- WindBoat.count(I)I, the place 97
set_option maxRecDepth 100000 in
set_option maxHeartbeats 8000000 in
theorem f_152_97 (μ : wm_M) (Q : Option Value → wm_M → Prop) (h : wm_OkI 0 7 [.ref 13] μ (fun r2 μ1 => Q (some (.int r2)) μ1)) : wm_Wp 0 152 97 [.ref 0, .null] μ Q := wm_vc mo_152 (rt := some .int) (by decide +kernel) mc_152 152 h
-- WindBoat.count(I)I, the place 108
set_option maxRecDepth 100000 in
set_option maxHeartbeats 8000000 in
theorem f_152_108 (μ : wm_M) (Q : Option Value → wm_M → Prop) (h : Q (some (.int (μ.1 13 13))) μ) : wm_Wp 0 152 108 [.ref 0, .null] μ Q := wm_vc mo_152 (rt := some .int) (by decide +kernel) mc_152 152 h
-- WindBoat.count(I)I, the place 119
set_option maxRecDepth 100000 in
set_option maxHeartbeats 8000000 in
theorem f_152_119 (μ : wm_M) (Q : Option Value → wm_M → Prop) (h : Q (some (.int (μ.1 18 6))) μ) : wm_Wp 0 152 119 [.ref 0, .null] μ Q := wm_vc mo_152 (rt := some .int) (by decide +kernel) mc_152 152 h
-- WindBoat.count(I)I, the place 130
set_option maxRecDepth 100000 in
set_option maxHeartbeats 8000000 in
theorem f_152_130 (μ : wm_M) (Q : Option Value → wm_M → Prop) (h : Q (some (.int (μ.1 59 1))) μ) : wm_Wp 0 152 130 [.ref 0, .null] μ Q := wm_vc mo_152 (rt := some .int) (by decide +kernel) mc_152 152 h
-- WindBoat.count(I)I, the place 138
set_option maxRecDepth 100000 in
set_option maxHeartbeats 8000000 in
theorem f_152_138 (μ : wm_M) (Q : Option Value → wm_M → Prop) (h : wm_OkI 0 86 [.ref 7] μ (fun r2 μ1 => Q (some (.int r2)) μ1)) : wm_Wp 0 152 138 [.ref 0, .null] μ Q := wm_vc mo_152 (rt := some .int) (by decide +kernel) mc_152 152 h
-- WindBoat.count(I)I, the place 149
set_option maxRecDepth 100000 in
set_option maxHeartbeats 8000000 in
theorem f_152_149 (μ : wm_M) (Q : Option Value → wm_M → Prop) (h : wm_OkI 0 78 [.ref 2] μ (fun r2 μ1 => Q (some (.int r2)) μ1)) : wm_Wp 0 152 149 [.ref 0, .null] μ Q := wm_vc mo_152 (rt := some .int) (by decide +kernel) mc_152 152 h
-- WindBoat.count(I)I, the place 160
set_option maxRecDepth 100000 in
set_option maxHeartbeats 8000000 in
theorem f_152_160 (μ : wm_M) (Q : Option Value → wm_M → Prop) (h : Q (some (.int (μ.1 13 5))) μ) : wm_Wp 0 152 160 [.ref 0, .null] μ Q := wm_vc mo_152 (rt := some .int) (by decide +kernel) mc_152 152 h
-- WindBoat.count(I)I, the place 171
set_option maxRecDepth 100000 in
set_option maxHeartbeats 8000000 in
theorem f_152_171 (μ : wm_M) (Q : Option Value → wm_M → Prop) (h : Q (some (.int (μ.1 2 4))) μ) : wm_Wp 0 152 171 [.ref 0, .null] μ Q := wm_vc mo_152 (rt := some .int) (by decide +kernel) mc_152 152 h
-- WindBoat.count(I)I, the place 182
set_option maxRecDepth 100000 in
set_option maxHeartbeats 8000000 in
theorem f_152_182 (μ : wm_M) (Q : Option Value → wm_M → Prop) (h : wm_OkI 0 177 [.int (μ.1 13 0)] μ (fun r2 μ1 => Q (some (.int r2)) μ1)) : wm_Wp 0 152 182 [.ref 0, .null] μ Q := wm_vc mo_152 (rt := some .int) (by decide +kernel) mc_152 152 h
-- WindBoat.count(I)I, the place 196
set_option maxRecDepth 100000 in
set_option maxHeartbeats 8000000 in
theorem f_152_196 (μ : wm_M) (Q : Option Value → wm_M → Prop) (h : wm_OkI 0 162 [.ref 0, .int (-7 : Int32)] μ (fun r2 μ1 => Q (some (.int r2)) μ1)) : wm_Wp 0 152 196 [.ref 0, .null] μ Q := wm_vc mo_152 (rt := some .int) (by decide +kernel) mc_152 152 h
-- WindBoat.image()I
set_option maxRecDepth 100000 in
set_option maxHeartbeats 8000000 in
theorem f_153 (μ : wm_M) (Q : Option Value → wm_M → Prop) (h : wm_OkV 0 46 [.ref 30, .ref 1] μ (fun μ1 => wm_Wp 0 153 11 [.ref 0] μ1 Q)) : wm_Ok 0 153 [.ref 0] μ Q := wm_ent (nL := 1) (l := [.ref 0]) (by decide +kernel) (by decide +kernel) (by decide +kernel) rfl rfl (wm_vc mo_153 (rt := some .int) (by decide +kernel) mc_153 46 h)
-- WindBoat.image()I, the place 11
set_option maxRecDepth 100000 in
set_option maxHeartbeats 8000000 in
theorem f_153_11 (μ : wm_M) (Q : Option Value → wm_M → Prop) (h : (((1 : Int32) = 0 ∨ (1 : Int32) = 1) ∧ wm_Wp 0 153 16 [.ref 0] (wm_si μ 0 2 (1 : Int32)) Q)) : wm_Wp 0 153 11 [.ref 0] μ Q := wm_vc mo_153 (rt := some .int) (by decide +kernel) mc_153 46 h
-- WindBoat.image()I, the place 16
set_option maxRecDepth 100000 in
set_option maxHeartbeats 8000000 in
theorem f_153_16 (μ : wm_M) (Q : Option Value → wm_M → Prop) (h : Q (some (.int (μ.1 13 4))) μ) : wm_Wp 0 153 16 [.ref 0] μ Q := wm_vc mo_153 (rt := some .int) (by decide +kernel) mc_153 46 h
-- WindBoat.back()I
set_option maxRecDepth 100000 in
set_option maxHeartbeats 8000000 in
theorem f_154 (μ : wm_M) (Q : Option Value → wm_M → Prop) (h : (((μ.1 0 2) = (0 : Int32) → wm_OkI 0 161 [.ref 0, .int (-2 : Int32)] μ (fun r2 μ1 => Q (some (.int r2)) μ1)) ∧ (¬ (μ.1 0 2) = (0 : Int32) → wm_Wp 0 154 14 [.ref 0] μ Q))) : wm_Ok 0 154 [.ref 0] μ Q := wm_ent (nL := 1) (l := [.ref 0]) (by decide +kernel) (by decide +kernel) (by decide +kernel) rfl rfl (wm_vc mo_154 (rt := some .int) (by decide +kernel) mc_154 54 h)
-- WindBoat.back()I, the place 14
set_option maxRecDepth 100000 in
set_option maxHeartbeats 8000000 in
theorem f_154_14 (μ : wm_M) (Q : Option Value → wm_M → Prop) (h : wm_OkR 0 163 [.ref 0] μ (fun μ1 => wm_OkV 0 46 [.ref 1, .ref 30] μ1 (fun μ2 => wm_Wp 0 154 25 [.ref 0] μ2 Q))) : wm_Wp 0 154 14 [.ref 0] μ Q := wm_vc mo_154 (rt := some .int) (by decide +kernel) mc_154 54 h
-- WindBoat.back()I, the place 25
set_option maxRecDepth 100000 in
set_option maxHeartbeats 8000000 in
theorem f_154_25 (μ : wm_M) (Q : Option Value → wm_M → Prop) (h : Q (some (.int (μ.1 13 4))) μ) : wm_Wp 0 154 25 [.ref 0] μ Q := wm_vc mo_154 (rt := some .int) (by decide +kernel) mc_154 54 h
-- WindBoat.lay(I)I
set_option maxRecDepth 100000 in
set_option maxHeartbeats 8000000 in
theorem f_155 (a1 : Int32) (μ : wm_M) (Q : Option Value → wm_M → Prop) (h : (((0 : Int32) ≤ a1 → wm_Wp 0 155 11 [.ref 0, .int a1] μ Q) ∧ (¬ (0 : Int32) ≤ a1 → wm_OkI 0 161 [.ref 0, .int (-4 : Int32)] μ (fun r2 μ1 => Q (some (.int r2)) μ1)))) : wm_Ok 0 155 [.ref 0, .int a1] μ Q := wm_ent (nL := 2) (l := [.ref 0, .int a1]) (by decide +kernel) (by decide +kernel) (by decide +kernel) rfl rfl (wm_vc mo_155 (rt := some .int) (by decide +kernel) mc_155 64 h)
-- WindBoat.lay(I)I, the place 11
set_option maxRecDepth 100000 in
set_option maxHeartbeats 8000000 in
theorem f_155_11 (x1 : Int32) (μ : wm_M) (Q : Option Value → wm_M → Prop) (h : ((x1 ≤ (12 : Int32) → wm_Wp 0 155 24 [.ref 0, .int x1] μ Q) ∧ (¬ x1 ≤ (12 : Int32) → wm_OkI 0 161 [.ref 0, .int (-7 : Int32)] μ (fun r2 μ1 => Q (some (.int r2)) μ1)))) : wm_Wp 0 155 11 [.ref 0, .int x1] μ Q := wm_vc mo_155 (rt := some .int) (by decide +kernel) mc_155 64 h
-- WindBoat.lay(I)I, the place 24
set_option maxRecDepth 100000 in
set_option maxHeartbeats 8000000 in
theorem f_155_24 (x1 : Int32) (μ : wm_M) (Q : Option Value → wm_M → Prop) (h : wm_OkV 0 343 [.ref 85, .int (0 : Int32)] μ (fun μ1 => wm_Wp 0 155 32 [.ref 0, .int x1] μ1 Q)) : wm_Wp 0 155 24 [.ref 0, .int x1] μ Q := wm_vc mo_155 (rt := some .int) (by decide +kernel) mc_155 64 h
-- WindBoat.lay(I)I, the place 32
set_option maxRecDepth 100000 in
set_option maxHeartbeats 8000000 in
theorem f_155_32 (x1 : Int32) (μ : wm_M) (Q : Option Value → wm_M → Prop) (h : wm_Wp 0 155 37 [.null, .int x1] (wm_si μ 0 9 x1) Q) : wm_Wp 0 155 32 [.ref 0, .int x1] μ Q := wm_vc mo_155 (rt := some .int) (by decide +kernel) mc_155 64 h
-- WindBoat.lay(I)I, the place 37
set_option maxRecDepth 100000 in
set_option maxHeartbeats 8000000 in
theorem f_155_37 (x1 : Int32) (μ : wm_M) (Q : Option Value → wm_M → Prop) (h : Q (some (.int x1)) μ) : wm_Wp 0 155 37 [.null, .int x1] μ Q := wm_vc mo_155 (rt := some .int) (by decide +kernel) mc_155 64 h
-- WindBoat.set(II)I
set_option maxRecDepth 100000 in
set_option maxHeartbeats 8000000 in
theorem f_156 (a1 : Int32) (a2 : Int32) (μ : wm_M) (Q : Option Value → wm_M → Prop) (h : (((μ.1 0 9) = (-1 : Int32) → wm_OkI 0 162 [.ref 0, .int (-2 : Int32)] μ (fun r2 μ1 => Q (some (.int r2)) μ1)) ∧ (¬ (μ.1 0 9) = (-1 : Int32) → wm_Wp 0 156 15 [.ref 0, .int a1, .int a2] μ Q))) : wm_Ok 0 156 [.ref 0, .int a1, .int a2] μ Q := wm_ent (nL := 3) (l := [.ref 0, .int a1, .int a2]) (by decide +kernel) (by decide +kernel) (by decide +kernel) rfl rfl (wm_vc mo_156 (rt := some .int) (by decide +kernel) mc_156 72 h)
-- WindBoat.set(II)I, the place 15
set_option maxRecDepth 100000 in
set_option maxHeartbeats 8000000 in
theorem f_156_15 (x1 : Int32) (x2 : Int32) (μ : wm_M) (Q : Option Value → wm_M → Prop) (h : wm_OkI 0 178 [.int x1, .int (0 : Int32), .int ((μ.1 0 9) - (1 : Int32))] μ (fun r2 μ1 => ((r2 = (0 : Int32) → wm_Wp 0 156 29 [.ref 0, .null, .null] μ1 Q) ∧ (¬ r2 = (0 : Int32) → wm_Wp 0 156 36 [.ref 0, .int x1, .int x2] μ1 Q)))) : wm_Wp 0 156 15 [.ref 0, .int x1, .int x2] μ Q := wm_vc mo_156 (rt := some .int) (by decide +kernel) mc_156 72 h
-- WindBoat.set(II)I, the place 29
set_option maxRecDepth 100000 in
set_option maxHeartbeats 8000000 in
theorem f_156_29 (μ : wm_M) (Q : Option Value → wm_M → Prop) (h : wm_OkI 0 162 [.ref 0, .int (-3 : Int32)] μ (fun r2 μ1 => Q (some (.int r2)) μ1)) : wm_Wp 0 156 29 [.ref 0, .null, .null] μ Q := wm_vc mo_156 (rt := some .int) (by decide +kernel) mc_156 72 h
-- WindBoat.set(II)I, the place 36
set_option maxRecDepth 100000 in
set_option maxHeartbeats 8000000 in
theorem f_156_36 (x1 : Int32) (x2 : Int32) (μ : wm_M) (Q : Option Value → wm_M → Prop) (h : wm_OkI 0 179 [.ref 85, .int x1, .int x2] μ (fun r2 μ1 => Q (some (.int r2)) μ1)) : wm_Wp 0 156 36 [.ref 0, .int x1, .int x2] μ Q := wm_vc mo_156 (rt := some .int) (by decide +kernel) mc_156 72 h
-- WindBoat.tear()I
set_option maxRecDepth 100000 in
set_option maxHeartbeats 8000000 in
theorem f_157 (μ : wm_M) (Q : Option Value → wm_M → Prop) (h : (((μ.1 0 9) = (-1 : Int32) → wm_Wp 0 157 12 [.ref 0, .null] μ Q) ∧ (¬ (μ.1 0 9) = (-1 : Int32) → wm_OkI 0 177 [.int (1 : Int32)] μ (fun r2 μ1 => wm_Wp 0 157 17 [.ref 0, .int r2] μ1 Q)))) : wm_Ok 0 157 [.ref 0] μ Q := wm_ent (nL := 2) (l := [.ref 0, .null]) (by decide +kernel) (by decide +kernel) (by decide +kernel) rfl rfl (wm_vc mo_157 (rt := some .int) (by decide +kernel) mc_157 48 h)
-- WindBoat.tear()I, the place 12
set_option maxRecDepth 100000 in
set_option maxHeartbeats 8000000 in
theorem f_157_12 (μ : wm_M) (Q : Option Value → wm_M → Prop) (h : wm_OkI 0 177 [.int (0 : Int32)] μ (fun r2 μ1 => wm_Wp 0 157 17 [.ref 0, .int r2] μ1 Q)) : wm_Wp 0 157 12 [.ref 0, .null] μ Q := wm_vc mo_157 (rt := some .int) (by decide +kernel) mc_157 48 h
-- WindBoat.tear()I, the place 17
set_option maxRecDepth 100000 in
set_option maxHeartbeats 8000000 in
theorem f_157_17 (x1 : Int32) (μ : wm_M) (Q : Option Value → wm_M → Prop) (h : wm_Wp 0 157 22 [.null, .int x1] (wm_si μ 0 9 (-1 : Int32)) Q) : wm_Wp 0 157 17 [.ref 0, .int x1] μ Q := wm_vc mo_157 (rt := some .int) (by decide +kernel) mc_157 48 h
-- WindBoat.tear()I, the place 22
set_option maxRecDepth 100000 in
set_option maxHeartbeats 8000000 in
theorem f_157_22 (x1 : Int32) (μ : wm_M) (Q : Option Value → wm_M → Prop) (h : Q (some (.int x1)) μ) : wm_Wp 0 157 22 [.null, .int x1] μ Q := wm_vc mo_157 (rt := some .int) (by decide +kernel) mc_157 48 h
-- WindBoat.row(I)I
set_option maxRecDepth 100000 in
set_option maxHeartbeats 8000000 in
theorem f_158 (a1 : Int32) (μ : wm_M) (Q : Option Value → wm_M → Prop) (h : (((μ.1 0 9) = (-1 : Int32) → wm_OkI 0 162 [.ref 0, .int (-2 : Int32)] μ (fun r2 μ1 => Q (some (.int r2)) μ1)) ∧ (¬ (μ.1 0 9) = (-1 : Int32) → wm_Wp 0 158 15 [.ref 0, .int a1] μ Q))) : wm_Ok 0 158 [.ref 0, .int a1] μ Q := wm_ent (nL := 2) (l := [.ref 0, .int a1]) (by decide +kernel) (by decide +kernel) (by decide +kernel) rfl rfl (wm_vc mo_158 (rt := some .int) (by decide +kernel) mc_158 70 h)
-- WindBoat.row(I)I, the place 15
set_option maxRecDepth 100000 in
set_option maxHeartbeats 8000000 in
theorem f_158_15 (x1 : Int32) (μ : wm_M) (Q : Option Value → wm_M → Prop) (h : wm_OkI 0 178 [.int x1, .int (0 : Int32), .int ((μ.1 0 9) - (1 : Int32))] μ (fun r2 μ1 => ((r2 = (0 : Int32) → wm_Wp 0 158 29 [.ref 0, .null] μ1 Q) ∧ (¬ r2 = (0 : Int32) → wm_Wp 0 158 36 [.ref 0, .int x1] μ1 Q)))) : wm_Wp 0 158 15 [.ref 0, .int x1] μ Q := wm_vc mo_158 (rt := some .int) (by decide +kernel) mc_158 70 h
-- WindBoat.row(I)I, the place 29
set_option maxRecDepth 100000 in
set_option maxHeartbeats 8000000 in
theorem f_158_29 (μ : wm_M) (Q : Option Value → wm_M → Prop) (h : wm_OkI 0 162 [.ref 0, .int (-3 : Int32)] μ (fun r2 μ1 => Q (some (.int r2)) μ1)) : wm_Wp 0 158 29 [.ref 0, .null] μ Q := wm_vc mo_158 (rt := some .int) (by decide +kernel) mc_158 70 h
-- WindBoat.row(I)I, the place 36
set_option maxRecDepth 100000 in
set_option maxHeartbeats 8000000 in
theorem f_158_36 (x1 : Int32) (μ : wm_M) (Q : Option Value → wm_M → Prop) (h : (vp_in x1 12 ∧ Q (some (.int (μ.1 85 (x1).toNatClampNeg))) μ)) : wm_Wp 0 158 36 [.ref 0, .int x1] μ Q := wm_vc mo_158 (rt := some .int) (by decide +kernel) mc_158 70 h
-- WindBoat.copy(III)I
set_option maxRecDepth 100000 in
set_option maxHeartbeats 8000000 in
theorem f_159 (a1 : Int32) (a2 : Int32) (a3 : Int32) (μ : wm_M) (Q : Option Value → wm_M → Prop) (h : (((μ.1 0 9) = (-1 : Int32) → wm_OkI 0 161 [.ref 0, .int (-2 : Int32)] μ (fun r2 μ1 => Q (some (.int r2)) μ1)) ∧ (¬ (μ.1 0 9) = (-1 : Int32) → wm_Wp 0 159 15 [.ref 0, .int a1, .int a2, .int a3] μ Q))) : wm_Ok 0 159 [.ref 0, .int a1, .int a2, .int a3] μ Q := wm_ent (nL := 4) (l := [.ref 0, .int a1, .int a2, .int a3]) (by decide +kernel) (by decide +kernel) (by decide +kernel) rfl rfl (wm_vc mo_159 (rt := some .int) (by decide +kernel) mc_159 116 h)
-- WindBoat.copy(III)I, the place 15
set_option maxRecDepth 100000 in
set_option maxHeartbeats 8000000 in
theorem f_159_15 (x1 : Int32) (x2 : Int32) (x3 : Int32) (μ : wm_M) (Q : Option Value → wm_M → Prop) (h : (((0 : Int32) ≤ x3 → wm_Wp 0 159 26 [.ref 0, .int x1, .int x2, .int x3] μ Q) ∧ (¬ (0 : Int32) ≤ x3 → wm_OkI 0 161 [.ref 0, .int (-4 : Int32)] μ (fun r2 μ1 => Q (some (.int r2)) μ1)))) : wm_Wp 0 159 15 [.ref 0, .int x1, .int x2, .int x3] μ Q := wm_vc mo_159 (rt := some .int) (by decide +kernel) mc_159 116 h
-- WindBoat.copy(III)I, the place 26
set_option maxRecDepth 100000 in
set_option maxHeartbeats 8000000 in
theorem f_159_26 (x1 : Int32) (x2 : Int32) (x3 : Int32) (μ : wm_M) (Q : Option Value → wm_M → Prop) (h : (((μ.1 0 9) < x3 → wm_Wp 0 159 62 [.ref 0, .null, .null, .null] μ Q) ∧ (¬ (μ.1 0 9) < x3 → wm_OkI 0 178 [.int x1, .int (0 : Int32), .int ((μ.1 0 9) - x3)] μ (fun r2 μ1 => ((r2 = (0 : Int32) → wm_Wp 0 159 62 [.ref 0, .null, .null, .null] μ1 Q) ∧ (¬ r2 = (0 : Int32) → wm_Wp 0 159 48 [.ref 0, .int x1, .int x2, .int x3] μ1 Q)))))) : wm_Wp 0 159 26 [.ref 0, .int x1, .int x2, .int x3] μ Q := wm_vc mo_159 (rt := some .int) (by decide +kernel) mc_159 116 h
-- WindBoat.copy(III)I, the place 48
set_option maxRecDepth 100000 in
set_option maxHeartbeats 8000000 in
theorem f_159_48 (x1 : Int32) (x2 : Int32) (x3 : Int32) (μ : wm_M) (Q : Option Value → wm_M → Prop) (h : wm_OkI 0 178 [.int x2, .int (0 : Int32), .int ((μ.1 0 9) - x3)] μ (fun r2 μ1 => ((r2 = (0 : Int32) → wm_Wp 0 159 62 [.ref 0, .null, .null, .null] μ1 Q) ∧ (¬ r2 = (0 : Int32) → wm_Wp 0 159 69 [.ref 0, .int x1, .int x2, .int x3] μ1 Q)))) : wm_Wp 0 159 48 [.ref 0, .int x1, .int x2, .int x3] μ Q := wm_vc mo_159 (rt := some .int) (by decide +kernel) mc_159 116 h
-- WindBoat.copy(III)I, the place 62
set_option maxRecDepth 100000 in
set_option maxHeartbeats 8000000 in
theorem f_159_62 (μ : wm_M) (Q : Option Value → wm_M → Prop) (h : wm_OkI 0 161 [.ref 0, .int (-6 : Int32)] μ (fun r2 μ1 => Q (some (.int r2)) μ1)) : wm_Wp 0 159 62 [.ref 0, .null, .null, .null] μ Q := wm_vc mo_159 (rt := some .int) (by decide +kernel) mc_159 116 h
-- WindBoat.copy(III)I, the place 69
set_option maxRecDepth 100000 in
set_option maxHeartbeats 8000000 in
theorem f_159_69 (x1 : Int32) (x2 : Int32) (x3 : Int32) (μ : wm_M) (Q : Option Value → wm_M → Prop) (h : (¬ x1 < 0 ∧ ¬ x2 < 0 ∧ ¬ x3 < 0 ∧ (x1).toNatClampNeg + (x3).toNatClampNeg ≤ 12 ∧ (x2).toNatClampNeg + (x3).toNatClampNeg ≤ 12 ∧ ∀ μ1, μ1 = wm_sr μ 85 (va_cpy (μ.1 85) (μ.1 85) (x1).toNatClampNeg (x2).toNatClampNeg (x3).toNatClampNeg) → wm_Wp 0 159 83 [.null, .null, .null, .int x3] μ1 Q)) : wm_Wp 0 159 69 [.ref 0, .int x1, .int x2, .int x3] μ Q := wm_vc mo_159 (rt := some .int) (by decide +kernel) mc_159 116 h
-- WindBoat.copy(III)I, the place 83
set_option maxRecDepth 100000 in
set_option maxHeartbeats 8000000 in
theorem f_159_83 (x3 : Int32) (μ : wm_M) (Q : Option Value → wm_M → Prop) (h : Q (some (.int x3)) μ) : wm_Wp 0 159 83 [.null, .null, .null, .int x3] μ Q := wm_vc mo_159 (rt := some .int) (by decide +kernel) mc_159 116 h
-- WindBoat.status(I)I
set_option maxRecDepth 100000 in
set_option maxHeartbeats 8000000 in
theorem f_160 (a1 : Int32) (μ : wm_M) (Q : Option Value → wm_M → Prop) (h : wm_OkI 0 178 [.int a1, .int (-8 : Int32), .int (-2 : Int32)] μ (fun r2 μ1 => ((r2 = (0 : Int32) → wm_Wp 0 160 21 [.ref 0, .null] μ1 Q) ∧ (¬ r2 = (0 : Int32) → wm_Wp 0 160 11 [.ref 0, .int a1] μ1 Q)))) : wm_Ok 0 160 [.ref 0, .int a1] μ Q := wm_ent (nL := 2) (l := [.ref 0, .int a1]) (by decide +kernel) (by decide +kernel) (by decide +kernel) rfl rfl (wm_vc mo_160 (rt := some .int) (by decide +kernel) mc_160 50 h)
-- WindBoat.status(I)I, the place 11
set_option maxRecDepth 100000 in
set_option maxHeartbeats 8000000 in
theorem f_160_11 (x1 : Int32) (μ : wm_M) (Q : Option Value → wm_M → Prop) (h : (vp_in (-x1) 9 ∧ Q (some (.int (μ.1 88 ((-x1)).toNatClampNeg))) μ)) : wm_Wp 0 160 11 [.ref 0, .int x1] μ Q := wm_vc mo_160 (rt := some .int) (by decide +kernel) mc_160 50 h
-- WindBoat.status(I)I, the place 21
set_option maxRecDepth 100000 in
set_option maxHeartbeats 8000000 in
theorem f_160_21 (μ : wm_M) (Q : Option Value → wm_M → Prop) (h : wm_OkI 0 161 [.ref 0, .int (-7 : Int32)] μ (fun r2 μ1 => Q (some (.int r2)) μ1)) : wm_Wp 0 160 21 [.ref 0, .null] μ Q := wm_vc mo_160 (rt := some .int) (by decide +kernel) mc_160 50 h
-- WindBoat.refuse(I)I
set_option maxRecDepth 100000 in
set_option maxHeartbeats 8000000 in
theorem f_161 (a1 : Int32) (μ : wm_M) (Q : Option Value → wm_M → Prop) (h : (vp_in (-a1) 9 ∧ (vp_in (-a1) 9 ∧ wm_Wp 0 161 11 [.null, .int a1] (wm_si μ 88 ((-a1)).toNatClampNeg ((μ.1 88 ((-a1)).toNatClampNeg) + (1 : Int32))) Q))) : wm_Ok 0 161 [.ref 0, .int a1] μ Q := wm_ent (nL := 2) (l := [.ref 0, .int a1]) (by decide +kernel) (by decide +kernel) (by decide +kernel) rfl rfl (wm_vc mo_161 (rt := some .int) (by decide +kernel) mc_161 42 h)
-- WindBoat.refuse(I)I, the place 11
set_option maxRecDepth 100000 in
set_option maxHeartbeats 8000000 in
theorem f_161_11 (x1 : Int32) (μ : wm_M) (Q : Option Value → wm_M → Prop) (h : Q (some (.int x1)) μ) : wm_Wp 0 161 11 [.null, .int x1] μ Q := wm_vc mo_161 (rt := some .int) (by decide +kernel) mc_161 42 h
-- WindBoat.refuseBy0(I)I
set_option maxRecDepth 100000 in
set_option maxHeartbeats 8000000 in
theorem f_162 (a1 : Int32) (μ : wm_M) (Q : Option Value → wm_M → Prop) (h : wm_OkI 0 161 [.ref 0, .int a1] μ (fun r2 μ1 => wm_Wp 0 162 6 [.null, .null] μ1 Q)) : wm_Ok 0 162 [.ref 0, .int a1] μ Q := wm_ent (nL := 2) (l := [.ref 0, .int a1]) (by decide +kernel) (by decide +kernel) (by decide +kernel) rfl rfl (wm_vc mo_162 (rt := some .int) (by decide +kernel) mc_162 32 h)
-- WindBoat.refuseBy0(I)I, the place 6
set_option maxRecDepth 100000 in
set_option maxHeartbeats 8000000 in
theorem f_162_6 (μ : wm_M) (Q : Option Value → wm_M → Prop) (h : Q (some (.int (0 : Int32))) μ) : wm_Wp 0 162 6 [.null, .null] μ Q := wm_vc mo_162 (rt := some .int) (by decide +kernel) mc_162 32 h
-- WindBoat.changing()LWindBoat$Log;
set_option maxRecDepth 100000 in
set_option maxHeartbeats 8000000 in
theorem f_163 (μ : wm_M) (Q : Option Value → wm_M → Prop) (h : wm_OkV 0 16 [.ref 62] μ (fun μ1 => wm_Wp 0 163 7 [.ref 0] μ1 Q)) : wm_Ok 0 163 [.ref 0] μ Q := wm_ent (nL := 1) (l := [.ref 0]) (by decide +kernel) (by decide +kernel) (by decide +kernel) rfl rfl (wm_vc mo_163 (rt := some (.object "WindBoat$Log")) (by decide +kernel) mc_163 38 h)
-- WindBoat.changing()LWindBoat$Log;, the place 7
set_option maxRecDepth 100000 in
set_option maxHeartbeats 8000000 in
theorem f_163_7 (μ : wm_M) (Q : Option Value → wm_M → Prop) (h : wm_OkV 0 27 [.ref 75] μ (fun μ1 => wm_Wp 0 163 14 [.ref 0] μ1 Q)) : wm_Wp 0 163 7 [.ref 0] μ Q := wm_vc mo_163 (rt := some (.object "WindBoat$Log")) (by decide +kernel) mc_163 38 h
-- WindBoat.changing()LWindBoat$Log;, the place 14
set_option maxRecDepth 100000 in
set_option maxHeartbeats 8000000 in
theorem f_163_14 (μ : wm_M) (Q : Option Value → wm_M → Prop) (h : Q (some (.ref 1)) μ) : wm_Wp 0 163 14 [.ref 0] μ Q := wm_vc mo_163 (rt := some (.object "WindBoat$Log")) (by decide +kernel) mc_163 38 h
-- WindBoat.stepTicksBehind(II)I
set_option maxRecDepth 100000 in
set_option maxHeartbeats 8000000 in
theorem f_164 (a1 : Int32) (a2 : Int32) (μ : wm_M) (Q : Option Value → wm_M → Prop) (h : wm_OkI 0 182 [.int (μ.1 13 1), .int a2] μ (fun r2 μ1 => wm_Wp 0 164 26 [.ref 0, .null, .int a2, .ref 13, .int ((μ.1 13 4) + a1), .int r2, .null] μ1 Q)) : wm_Ok 0 164 [.ref 0, .int a1, .int a2] μ Q := wm_ent (nL := 7) (l := [.ref 0, .int a1, .int a2, .null, .null, .null, .null]) (by decide +kernel) (by decide +kernel) (by decide +kernel) rfl rfl (wm_vc mo_164 (rt := some .int) (by decide +kernel) mc_164 140 h)
-- WindBoat.stepTicksBehind(II)I, the place 26
set_option maxRecDepth 100000 in
set_option maxHeartbeats 8000000 in
theorem f_164_26 (x2 : Int32) (x4 : Int32) (x5 : Int32) (μ : wm_M) (Q : Option Value → wm_M → Prop) (h : ((x5 = (-1 : Int32) → wm_Wp 0 164 51 [.null, .null, .null, .null, .null, .null, .null] μ Q) ∧ (¬ x5 = (-1 : Int32) → (((120 : Int32) < x4 → wm_Wp 0 164 51 [.null, .null, .null, .null, .null, .null, .null] μ Q) ∧ (¬ (120 : Int32) < x4 → wm_OkI 0 51 [.ref 1, .int x4] μ (fun r2 μ1 => ((r2 = (0 : Int32) → wm_Wp 0 164 53 [.ref 0, .null, .int x2, .ref 13, .int x4, .int x5, .null] μ1 Q) ∧ (¬ r2 = (0 : Int32) → wm_Wp 0 164 51 [.null, .null, .null, .null, .null, .null, .null] μ1 Q)))))))) : wm_Wp 0 164 26 [.ref 0, .null, .int x2, .ref 13, .int x4, .int x5, .null] μ Q := wm_vc mo_164 (rt := some .int) (by decide +kernel) mc_164 140 h
-- WindBoat.stepTicksBehind(II)I, the place 51
set_option maxRecDepth 100000 in
set_option maxHeartbeats 8000000 in
theorem f_164_51 (μ : wm_M) (Q : Option Value → wm_M → Prop) (h : Q (some (.int (0 : Int32))) μ) : wm_Wp 0 164 51 [.null, .null, .null, .null, .null, .null, .null] μ Q := wm_vc mo_164 (rt := some .int) (by decide +kernel) mc_164 140 h
-- WindBoat.stepTicksBehind(II)I, the place 53
set_option maxRecDepth 100000 in
set_option maxHeartbeats 8000000 in
theorem f_164_53 (x2 : Int32) (x4 : Int32) (x5 : Int32) (μ : wm_M) (Q : Option Value → wm_M → Prop) (h : wm_OkI 0 180 [.int x4] μ (fun r2 μ1 => wm_Wp 0 164 60 [.ref 0, .null, .int x2, .ref 13, .null, .int x5, .int r2] μ1 Q)) : wm_Wp 0 164 53 [.ref 0, .null, .int x2, .ref 13, .int x4, .int x5, .null] μ Q := wm_vc mo_164 (rt := some .int) (by decide +kernel) mc_164 140 h
-- WindBoat.stepTicksBehind(II)I, the place 60
set_option maxRecDepth 100000 in
set_option maxHeartbeats 8000000 in
theorem f_164_60 (x2 : Int32) (x5 : Int32) (x6 : Int32) (μ : wm_M) (Q : Option Value → wm_M → Prop) (h : wm_OkV 0 18 [.ref 62, .int (μ.1 13 1), .int x6, .int (μ.1 13 3)] μ (fun μ1 => wm_Wp 0 164 77 [.ref 0, .null, .int x2, .ref 13, .null, .int x5, .int x6] μ1 Q)) : wm_Wp 0 164 60 [.ref 0, .null, .int x2, .ref 13, .null, .int x5, .int x6] μ Q := wm_vc mo_164 (rt := some .int) (by decide +kernel) mc_164 140 h
-- WindBoat.stepTicksBehind(II)I, the place 77
set_option maxRecDepth 100000 in
set_option maxHeartbeats 8000000 in
theorem f_164_77 (x2 : Int32) (x5 : Int32) (x6 : Int32) (μ : wm_M) (Q : Option Value → wm_M → Prop) (h : wm_OkV 0 18 [.ref 62, .int x5, .int x6, .int (μ.1 13 3)] μ (fun μ1 => wm_Wp 0 164 92 [.ref 0, .null, .int x2, .ref 13, .null, .null, .int x6] μ1 Q)) : wm_Wp 0 164 77 [.ref 0, .null, .int x2, .ref 13, .null, .int x5, .int x6] μ Q := wm_vc mo_164 (rt := some .int) (by decide +kernel) mc_164 140 h
-- WindBoat.stepTicksBehind(II)I, the place 92
set_option maxRecDepth 100000 in
set_option maxHeartbeats 8000000 in
theorem f_164_92 (x2 : Int32) (x6 : Int32) (μ : wm_M) (Q : Option Value → wm_M → Prop) (h : wm_OkV 0 19 [.ref 62, .int (6 : Int32), .int (1 : Int32)] μ (fun μ1 => wm_Wp 0 164 102 [.ref 0, .null, .int x2, .ref 13, .null, .null, .int x6] μ1 Q)) : wm_Wp 0 164 92 [.ref 0, .null, .int x2, .ref 13, .null, .null, .int x6] μ Q := wm_vc mo_164 (rt := some .int) (by decide +kernel) mc_164 140 h
-- WindBoat.stepTicksBehind(II)I, the place 102
set_option maxRecDepth 100000 in
set_option maxHeartbeats 8000000 in
theorem f_164_102 (x2 : Int32) (x6 : Int32) (μ : wm_M) (Q : Option Value → wm_M → Prop) (h : wm_OkI 0 22 [.ref 62, .int (μ.1 13 1), .int x2, .int (μ.1 13 3), .int x6] μ (fun r2 μ1 => Q (some (.int r2)) μ1)) : wm_Wp 0 164 102 [.ref 0, .null, .int x2, .ref 13, .null, .null, .int x6] μ Q := wm_vc mo_164 (rt := some .int) (by decide +kernel) mc_164 140 h
-- WindBoat.isSail(I)Z
set_option maxRecDepth 100000 in
set_option maxHeartbeats 8000000 in
theorem f_165 (a1 : Int32) (μ : wm_M) (Q : Option Value → wm_M → Prop) (h : wm_OkI 0 178 [.int a1, .int (0 : Int32), .int ((μ.1 13 10) - (1 : Int32))] μ (fun r2 μ1 => ((r2 = 0 ∨ r2 = 1) ∧ Q (some (.int r2)) μ1))) : wm_Ok 0 165 [.ref 0, .int a1] μ Q := wm_ent (nL := 2) (l := [.ref 0, .int a1]) (by decide +kernel) (by decide +kernel) (by decide +kernel) rfl rfl (wm_vc mo_165 (rt := some .boolean) (by decide +kernel) mc_165 40 h)
-- WindBoat.isAsked(III)Z
set_option maxRecDepth 100000 in
set_option maxHeartbeats 8000000 in
theorem f_166 (a1 : Int32) (a2 : Int32) (a3 : Int32) (μ : wm_M) (Q : Option Value → wm_M → Prop) (h : wm_OkI 0 178 [.int a1, .int (0 : Int32), .int (29 : Int32)] μ (fun r2 μ1 => ((r2 = (0 : Int32) → wm_Wp 0 166 42 [.null, .null, .null, .null] μ1 Q) ∧ (¬ r2 = (0 : Int32) → wm_Wp 0 166 10 [.ref 0, .int a1, .int a2, .int a3] μ1 Q)))) : wm_Ok 0 166 [.ref 0, .int a1, .int a2, .int a3] μ Q := wm_ent (nL := 4) (l := [.ref 0, .int a1, .int a2, .int a3]) (by decide +kernel) (by decide +kernel) (by decide +kernel) rfl rfl (wm_vc mo_166 (rt := some .boolean) (by decide +kernel) mc_166 66 h)
-- WindBoat.isAsked(III)Z, the place 10
set_option maxRecDepth 100000 in
set_option maxHeartbeats 8000000 in
theorem f_166_10 (x1 : Int32) (x2 : Int32) (x3 : Int32) (μ : wm_M) (Q : Option Value → wm_M → Prop) (h : (¬ (10 : Int32) = 0 ∧ wm_OkI 0 165 [.ref 0, .int (x1 - x1 / (10 : Int32) * (10 : Int32))] μ (fun r2 μ1 => ((r2 = (0 : Int32) → wm_Wp 0 166 42 [.null, .null, .null, .null] μ1 Q) ∧ (¬ r2 = (0 : Int32) → wm_Wp 0 166 21 [.null, .null, .int x2, .int x3] μ1 Q))))) : wm_Wp 0 166 10 [.ref 0, .int x1, .int x2, .int x3] μ Q := wm_vc mo_166 (rt := some .boolean) (by decide +kernel) mc_166 66 h
-- WindBoat.isAsked(III)Z, the place 21
set_option maxRecDepth 100000 in
set_option maxHeartbeats 8000000 in
theorem f_166_21 (x2 : Int32) (x3 : Int32) (μ : wm_M) (Q : Option Value → wm_M → Prop) (h : wm_OkI 0 167 [.int x2] μ (fun r2 μ1 => ((r2 = (0 : Int32) → wm_Wp 0 166 42 [.null, .null, .null, .null] μ1 Q) ∧ (¬ r2 = (0 : Int32) → wm_Wp 0 166 28 [.null, .null, .null, .int x3] μ1 Q)))) : wm_Wp 0 166 21 [.null, .null, .int x2, .int x3] μ Q := wm_vc mo_166 (rt := some .boolean) (by decide +kernel) mc_166 66 h
-- WindBoat.isAsked(III)Z, the place 28
set_option maxRecDepth 100000 in
set_option maxHeartbeats 8000000 in
theorem f_166_28 (x3 : Int32) (μ : wm_M) (Q : Option Value → wm_M → Prop) (h : wm_OkI 0 178 [.int x3, .int (0 : Int32), .int (11 : Int32)] μ (fun r2 μ1 => ((r2 = (0 : Int32) → wm_Wp 0 166 42 [.null, .null, .null, .null] μ1 Q) ∧ (¬ r2 = (0 : Int32) → wm_Wp 0 166 38 [.null, .null, .null, .null] μ1 Q)))) : wm_Wp 0 166 28 [.null, .null, .null, .int x3] μ Q := wm_vc mo_166 (rt := some .boolean) (by decide +kernel) mc_166 66 h
-- WindBoat.isAsked(III)Z, the place 38
set_option maxRecDepth 100000 in
set_option maxHeartbeats 8000000 in
theorem f_166_38 (μ : wm_M) (Q : Option Value → wm_M → Prop) (h : (((1 : Int32) = 0 ∨ (1 : Int32) = 1) ∧ Q (some (.int (1 : Int32))) μ)) : wm_Wp 0 166 38 [.null, .null, .null, .null] μ Q := wm_vc mo_166 (rt := some .boolean) (by decide +kernel) mc_166 66 h
-- WindBoat.isAsked(III)Z, the place 42
set_option maxRecDepth 100000 in
set_option maxHeartbeats 8000000 in
theorem f_166_42 (μ : wm_M) (Q : Option Value → wm_M → Prop) (h : (((0 : Int32) = 0 ∨ (0 : Int32) = 1) ∧ Q (some (.int (0 : Int32))) μ)) : wm_Wp 0 166 42 [.null, .null, .null, .null] μ Q := wm_vc mo_166 (rt := some .boolean) (by decide +kernel) mc_166 66 h
-- WindBoat.isCell(I)Z
set_option maxRecDepth 100000 in
set_option maxHeartbeats 8000000 in
theorem f_167 (a0 : Int32) (μ : wm_M) (Q : Option Value → wm_M → Prop) (h : wm_OkI 0 178 [.int a0, .int (0 : Int32), .int (35 : Int32)] μ (fun r2 μ1 => ((r2 = 0 ∨ r2 = 1) ∧ Q (some (.int r2)) μ1))) : wm_Ok 0 167 [.int a0] μ Q := wm_ent (nL := 1) (l := [.int a0]) (by decide +kernel) (by decide +kernel) (by decide +kernel) rfl rfl (wm_vc mo_167 (rt := some .boolean) (by decide +kernel) mc_167 30 h)
-- WindBoat.isHeading(I)Z
set_option maxRecDepth 100000 in
set_option maxHeartbeats 8000000 in
theorem f_168 (a0 : Int32) (μ : wm_M) (Q : Option Value → wm_M → Prop) (h : wm_OkI 0 178 [.int a0, .int (0 : Int32), .int (7 : Int32)] μ (fun r2 μ1 => ((r2 = 0 ∨ r2 = 1) ∧ Q (some (.int r2)) μ1))) : wm_Ok 0 168 [.int a0] μ Q := wm_ent (nL := 1) (l := [.int a0]) (by decide +kernel) (by decide +kernel) (by decide +kernel) rfl rfl (wm_vc mo_168 (rt := some .boolean) (by decide +kernel) mc_168 30 h)
-- WindBoat.isWind(I)Z
set_option maxRecDepth 100000 in
set_option maxHeartbeats 8000000 in
theorem f_169 (a0 : Int32) (μ : wm_M) (Q : Option Value → wm_M → Prop) (h : wm_OkI 0 178 [.int a0, .int (0 : Int32), .int (6 : Int32)] μ (fun r2 μ1 => ((r2 = 0 ∨ r2 = 1) ∧ Q (some (.int r2)) μ1))) : wm_Ok 0 169 [.int a0] μ Q := wm_ent (nL := 1) (l := [.int a0]) (by decide +kernel) (by decide +kernel) (by decide +kernel) rfl rfl (wm_vc mo_169 (rt := some .boolean) (by decide +kernel) mc_169 30 h)
-- WindBoat.isWorld(I)Z
set_option maxRecDepth 100000 in
set_option maxHeartbeats 8000000 in
theorem f_170 (a0 : Int32) (μ : wm_M) (Q : Option Value → wm_M → Prop) (h : wm_OkI 0 178 [.int a0, .int (0 : Int32), .int (5 : Int32)] μ (fun r2 μ1 => ((r2 = 0 ∨ r2 = 1) ∧ Q (some (.int r2)) μ1))) : wm_Ok 0 170 [.int a0] μ Q := wm_ent (nL := 1) (l := [.int a0]) (by decide +kernel) (by decide +kernel) (by decide +kernel) rfl rfl (wm_vc mo_170 (rt := some .boolean) (by decide +kernel) mc_170 30 h)
-- WindBoat.isWindOfHour(I)Z
set_option maxRecDepth 100000 in
set_option maxHeartbeats 8000000 in
theorem f_171 (a0 : Int32) (μ : wm_M) (Q : Option Value → wm_M → Prop) (h : ((a0 < (0 : Int32) → wm_Wp 0 171 26 [.null] μ Q) ∧ (¬ a0 < (0 : Int32) → (¬ (10 : Int32) = 0 ∧ (((12 : Int32) ≤ (a0 / (10 : Int32)) → wm_Wp 0 171 26 [.null] μ Q) ∧ (¬ (12 : Int32) ≤ (a0 / (10 : Int32)) → (¬ (10 : Int32) = 0 ∧ (((7 : Int32) ≤ (a0 - a0 / (10 : Int32) * (10 : Int32)) → wm_Wp 0 171 26 [.null] μ Q) ∧ (¬ (7 : Int32) ≤ (a0 - a0 / (10 : Int32) * (10 : Int32)) → wm_Wp 0 171 22 [.null] μ Q))))))))) : wm_Ok 0 171 [.int a0] μ Q := wm_ent (nL := 1) (l := [.int a0]) (by decide +kernel) (by decide +kernel) (by decide +kernel) rfl rfl (wm_vc mo_171 (rt := some .boolean) (by decide +kernel) mc_171 52 h)
-- WindBoat.isWindOfHour(I)Z, the place 22
set_option maxRecDepth 100000 in
set_option maxHeartbeats 8000000 in
theorem f_171_22 (μ : wm_M) (Q : Option Value → wm_M → Prop) (h : (((1 : Int32) = 0 ∨ (1 : Int32) = 1) ∧ Q (some (.int (1 : Int32))) μ)) : wm_Wp 0 171 22 [.null] μ Q := wm_vc mo_171 (rt := some .boolean) (by decide +kernel) mc_171 52 h
-- WindBoat.isWindOfHour(I)Z, the place 26
set_option maxRecDepth 100000 in
set_option maxHeartbeats 8000000 in
theorem f_171_26 (μ : wm_M) (Q : Option Value → wm_M → Prop) (h : (((0 : Int32) = 0 ∨ (0 : Int32) = 1) ∧ Q (some (.int (0 : Int32))) μ)) : wm_Wp 0 171 26 [.null] μ Q := wm_vc mo_171 (rt := some .boolean) (by decide +kernel) mc_171 52 h
-- WindBoat.isAngle(I)Z
set_option maxRecDepth 100000 in
set_option maxHeartbeats 8000000 in
theorem f_172 (a0 : Int32) (μ : wm_M) (Q : Option Value → wm_M → Prop) (h : wm_OkI 0 178 [.int a0, .int (0 : Int32), .int (4 : Int32)] μ (fun r2 μ1 => ((r2 = 0 ∨ r2 = 1) ∧ Q (some (.int r2)) μ1))) : wm_Ok 0 172 [.int a0] μ Q := wm_ent (nL := 1) (l := [.int a0]) (by decide +kernel) (by decide +kernel) (by decide +kernel) rfl rfl (wm_vc mo_172 (rt := some .boolean) (by decide +kernel) mc_172 30 h)
-- WindBoat.isBand(I)Z
set_option maxRecDepth 100000 in
set_option maxHeartbeats 8000000 in
theorem f_173 (a0 : Int32) (μ : wm_M) (Q : Option Value → wm_M → Prop) (h : wm_OkI 0 178 [.int a0, .int (0 : Int32), .int (4 : Int32)] μ (fun r2 μ1 => ((r2 = 0 ∨ r2 = 1) ∧ Q (some (.int r2)) μ1))) : wm_Ok 0 173 [.int a0] μ Q := wm_ent (nL := 1) (l := [.int a0]) (by decide +kernel) (by decide +kernel) (by decide +kernel) rfl rfl (wm_vc mo_173 (rt := some .boolean) (by decide +kernel) mc_173 30 h)
-- WindBoat.isSpeed(I)Z
set_option maxRecDepth 100000 in
set_option maxHeartbeats 8000000 in
theorem f_174 (a0 : Int32) (μ : wm_M) (Q : Option Value → wm_M → Prop) (h : wm_OkI 0 178 [.int a0, .int (0 : Int32), .int (99 : Int32)] μ (fun r2 μ1 => ((r2 = 0 ∨ r2 = 1) ∧ Q (some (.int r2)) μ1))) : wm_Ok 0 174 [.int a0] μ Q := wm_ent (nL := 1) (l := [.int a0]) (by decide +kernel) (by decide +kernel) (by decide +kernel) rfl rfl (wm_vc mo_174 (rt := some .boolean) (by decide +kernel) mc_174 30 h)
-- WindBoat.isTick(I)Z
set_option maxRecDepth 100000 in
set_option maxHeartbeats 8000000 in
theorem f_175 (a0 : Int32) (μ : wm_M) (Q : Option Value → wm_M → Prop) (h : wm_OkI 0 178 [.int a0, .int (0 : Int32), .int (120 : Int32)] μ (fun r2 μ1 => ((r2 = 0 ∨ r2 = 1) ∧ Q (some (.int r2)) μ1))) : wm_Ok 0 175 [.int a0] μ Q := wm_ent (nL := 1) (l := [.int a0]) (by decide +kernel) (by decide +kernel) (by decide +kernel) rfl rfl (wm_vc mo_175 (rt := some .boolean) (by decide +kernel) mc_175 30 h)
-- WindBoat.isFlag(I)Z
set_option maxRecDepth 100000 in
set_option maxHeartbeats 8000000 in
theorem f_176 (a0 : Int32) (μ : wm_M) (Q : Option Value → wm_M → Prop) (h : ((a0 = (0 : Int32) → wm_Wp 0 176 9 [.null] μ Q) ∧ (¬ a0 = (0 : Int32) → ((a0 = (1 : Int32) → wm_Wp 0 176 9 [.null] μ Q) ∧ (¬ a0 = (1 : Int32) → wm_Wp 0 176 13 [.null] μ Q))))) : wm_Ok 0 176 [.int a0] μ Q := wm_ent (nL := 1) (l := [.int a0]) (by decide +kernel) (by decide +kernel) (by decide +kernel) rfl rfl (wm_vc mo_176 (rt := some .boolean) (by decide +kernel) mc_176 38 h)
-- WindBoat.isFlag(I)Z, the place 9
set_option maxRecDepth 100000 in
set_option maxHeartbeats 8000000 in
theorem f_176_9 (μ : wm_M) (Q : Option Value → wm_M → Prop) (h : (((1 : Int32) = 0 ∨ (1 : Int32) = 1) ∧ Q (some (.int (1 : Int32))) μ)) : wm_Wp 0 176 9 [.null] μ Q := wm_vc mo_176 (rt := some .boolean) (by decide +kernel) mc_176 38 h
-- WindBoat.isFlag(I)Z, the place 13
set_option maxRecDepth 100000 in
set_option maxHeartbeats 8000000 in
theorem f_176_13 (μ : wm_M) (Q : Option Value → wm_M → Prop) (h : (((0 : Int32) = 0 ∨ (0 : Int32) = 1) ∧ Q (some (.int (0 : Int32))) μ)) : wm_Wp 0 176 13 [.null] μ Q := wm_vc mo_176 (rt := some .boolean) (by decide +kernel) mc_176 38 h
-- WindBoat.flag(Z)I
set_option maxRecDepth 100000 in
set_option maxHeartbeats 8000000 in
theorem f_177 (a0 : Int32) (μ : wm_M) (Q : Option Value → wm_M → Prop) (h : ((a0 = (0 : Int32) → wm_Wp 0 177 8 [.null] μ Q) ∧ (¬ a0 = (0 : Int32) → Q (some (.int (1 : Int32))) μ))) : wm_Ok 0 177 [.int a0] μ Q := wm_ent (nL := 1) (l := [.int a0]) (by decide +kernel) (by decide +kernel) (by decide +kernel) rfl rfl (wm_vc mo_177 (rt := some .int) (by decide +kernel) mc_177 32 h)
-- WindBoat.flag(Z)I, the place 8
set_option maxRecDepth 100000 in
set_option maxHeartbeats 8000000 in
theorem f_177_8 (μ : wm_M) (Q : Option Value → wm_M → Prop) (h : Q (some (.int (0 : Int32))) μ) : wm_Wp 0 177 8 [.null] μ Q := wm_vc mo_177 (rt := some .int) (by decide +kernel) mc_177 32 h
-- WindBoat.within(III)Z
set_option maxRecDepth 100000 in
set_option maxHeartbeats 8000000 in
theorem f_178 (a0 : Int32) (a1 : Int32) (a2 : Int32) (μ : wm_M) (Q : Option Value → wm_M → Prop) (h : ((a0 < a1 → wm_Wp 0 178 14 [.null, .null, .null] μ Q) ∧ (¬ a0 < a1 → ((a2 < a0 → wm_Wp 0 178 14 [.null, .null, .null] μ Q) ∧ (¬ a2 < a0 → (((1 : Int32) = 0 ∨ (1 : Int32) = 1) ∧ Q (some (.int (1 : Int32))) μ)))))) : wm_Ok 0 178 [.int a0, .int a1, .int a2] μ Q := wm_ent (nL := 3) (l := [.int a0, .int a1, .int a2]) (by decide +kernel) (by decide +kernel) (by decide +kernel) rfl rfl (wm_vc mo_178 (rt := some .boolean) (by decide +kernel) mc_178 40 h)
-- WindBoat.within(III)Z, the place 14
set_option maxRecDepth 100000 in
set_option maxHeartbeats 8000000 in
theorem f_178_14 (μ : wm_M) (Q : Option Value → wm_M → Prop) (h : (((0 : Int32) = 0 ∨ (0 : Int32) = 1) ∧ Q (some (.int (0 : Int32))) μ)) : wm_Wp 0 178 14 [.null, .null, .null] μ Q := wm_vc mo_178 (rt := some .boolean) (by decide +kernel) mc_178 40 h
-- WindBoat.exchange([III)I
set_option maxRecDepth 100000 in
set_option maxHeartbeats 8000000 in
theorem f_179_85 (a1 : Int32) (a2 : Int32) (μ : wm_M) (Q : Option Value → wm_M → Prop) (h : (vp_in a1 12 ∧ (vp_in a1 12 ∧ wm_Wp 0 179 8 [.null, .null, .null, .int (μ.1 85 (a1).toNatClampNeg)] (wm_si μ 85 (a1).toNatClampNeg a2) Q))) : wm_Ok 0 179 [.ref 85, .int a1, .int a2] μ Q := wm_ent (nL := 4) (l := [.ref 85, .int a1, .int a2, .null]) (by decide +kernel) (by decide +kernel) (by decide +kernel) rfl rfl (wm_vc mo_179 (rt := some .int) (by decide +kernel) mc_179 40 h)
-- WindBoat.exchange([III)I, the place 8
set_option maxRecDepth 100000 in
set_option maxHeartbeats 8000000 in
theorem f_179_8_85 (x3 : Int32) (μ : wm_M) (Q : Option Value → wm_M → Prop) (h : Q (some (.int x3)) μ) : wm_Wp 0 179 8 [.null, .null, .null, .int x3] μ Q := wm_vc mo_179 (rt := some .int) (by decide +kernel) mc_179 40 h
-- WindBoat.exchange([III)I
set_option maxRecDepth 100000 in
set_option maxHeartbeats 8000000 in
theorem f_179_27 (a1 : Int32) (a2 : Int32) (μ : wm_M) (Q : Option Value → wm_M → Prop) (h : (vp_in a1 3 ∧ (vp_in a1 3 ∧ wm_Wp 0 179 8 [.null, .null, .null, .int (μ.1 27 (a1).toNatClampNeg)] (wm_si μ 27 (a1).toNatClampNeg a2) Q))) : wm_Ok 0 179 [.ref 27, .int a1, .int a2] μ Q := wm_ent (nL := 4) (l := [.ref 27, .int a1, .int a2, .null]) (by decide +kernel) (by decide +kernel) (by decide +kernel) rfl rfl (wm_vc mo_179 (rt := some .int) (by decide +kernel) mc_179 40 h)
-- WindBoat.exchange([III)I, the place 8
set_option maxRecDepth 100000 in
set_option maxHeartbeats 8000000 in
theorem f_179_8_27 (x3 : Int32) (μ : wm_M) (Q : Option Value → wm_M → Prop) (h : Q (some (.int x3)) μ) : wm_Wp 0 179 8 [.null, .null, .null, .int x3] μ Q := wm_vc mo_179 (rt := some .int) (by decide +kernel) mc_179 40 h
-- WindBoat.exchange([III)I
set_option maxRecDepth 100000 in
set_option maxHeartbeats 8000000 in
theorem f_179_28 (a1 : Int32) (a2 : Int32) (μ : wm_M) (Q : Option Value → wm_M → Prop) (h : (vp_in a1 6 ∧ (vp_in a1 6 ∧ wm_Wp 0 179 8 [.null, .null, .null, .int (μ.1 28 (a1).toNatClampNeg)] (wm_si μ 28 (a1).toNatClampNeg a2) Q))) : wm_Ok 0 179 [.ref 28, .int a1, .int a2] μ Q := wm_ent (nL := 4) (l := [.ref 28, .int a1, .int a2, .null]) (by decide +kernel) (by decide +kernel) (by decide +kernel) rfl rfl (wm_vc mo_179 (rt := some .int) (by decide +kernel) mc_179 40 h)
-- WindBoat.exchange([III)I, the place 8
set_option maxRecDepth 100000 in
set_option maxHeartbeats 8000000 in
theorem f_179_8_28 (x3 : Int32) (μ : wm_M) (Q : Option Value → wm_M → Prop) (h : Q (some (.int x3)) μ) : wm_Wp 0 179 8 [.null, .null, .null, .int x3] μ Q := wm_vc mo_179 (rt := some .int) (by decide +kernel) mc_179 40 h
-- WindBoat.exchange([III)I
set_option maxRecDepth 100000 in
set_option maxHeartbeats 8000000 in
theorem f_179_29 (a1 : Int32) (a2 : Int32) (μ : wm_M) (Q : Option Value → wm_M → Prop) (h : (vp_in a1 36 ∧ (vp_in a1 36 ∧ wm_Wp 0 179 8 [.null, .null, .null, .int (μ.1 29 (a1).toNatClampNeg)] (wm_si μ 29 (a1).toNatClampNeg a2) Q))) : wm_Ok 0 179 [.ref 29, .int a1, .int a2] μ Q := wm_ent (nL := 4) (l := [.ref 29, .int a1, .int a2, .null]) (by decide +kernel) (by decide +kernel) (by decide +kernel) rfl rfl (wm_vc mo_179 (rt := some .int) (by decide +kernel) mc_179 40 h)
-- WindBoat.exchange([III)I, the place 8
set_option maxRecDepth 100000 in
set_option maxHeartbeats 8000000 in
theorem f_179_8_29 (x3 : Int32) (μ : wm_M) (Q : Option Value → wm_M → Prop) (h : Q (some (.int x3)) μ) : wm_Wp 0 179 8 [.null, .null, .null, .int x3] μ Q := wm_vc mo_179 (rt := some .int) (by decide +kernel) mc_179 40 h
-- WindBoat.exchange([III)I
set_option maxRecDepth 100000 in
set_option maxHeartbeats 8000000 in
theorem f_179_74 (a1 : Int32) (a2 : Int32) (μ : wm_M) (Q : Option Value → wm_M → Prop) (h : (vp_in a1 121 ∧ (vp_in a1 121 ∧ wm_Wp 0 179 8 [.null, .null, .null, .int (μ.1 74 (a1).toNatClampNeg)] (wm_si μ 74 (a1).toNatClampNeg a2) Q))) : wm_Ok 0 179 [.ref 74, .int a1, .int a2] μ Q := wm_ent (nL := 4) (l := [.ref 74, .int a1, .int a2, .null]) (by decide +kernel) (by decide +kernel) (by decide +kernel) rfl rfl (wm_vc mo_179 (rt := some .int) (by decide +kernel) mc_179 40 h)
-- WindBoat.exchange([III)I, the place 8
set_option maxRecDepth 100000 in
set_option maxHeartbeats 8000000 in
theorem f_179_8_74 (x3 : Int32) (μ : wm_M) (Q : Option Value → wm_M → Prop) (h : Q (some (.int x3)) μ) : wm_Wp 0 179 8 [.null, .null, .null, .int x3] μ Q := wm_vc mo_179 (rt := some .int) (by decide +kernel) mc_179 40 h
-- WindBoat.hourOf(I)I
set_option maxRecDepth 100000 in
set_option maxHeartbeats 8000000 in
theorem f_180 (a0 : Int32) (μ : wm_M) (Q : Option Value → wm_M → Prop) (h : (((120 : Int32) ≤ a0 → wm_Wp 0 180 13 [.null] μ Q) ∧ (¬ (120 : Int32) ≤ a0 → (¬ (10 : Int32) = 0 ∧ Q (some (.int (a0 / (10 : Int32)))) μ)))) : wm_Ok 0 180 [.int a0] μ Q := wm_ent (nL := 1) (l := [.int a0]) (by decide +kernel) (by decide +kernel) (by decide +kernel) rfl rfl (wm_vc mo_180 (rt := some .int) (by decide +kernel) mc_180 38 h)
-- WindBoat.hourOf(I)I, the place 13
set_option maxRecDepth 100000 in
set_option maxHeartbeats 8000000 in
theorem f_180_13 (μ : wm_M) (Q : Option Value → wm_M → Prop) (h : Q (some (.int (11 : Int32))) μ) : wm_Wp 0 180 13 [.null] μ Q := wm_vc mo_180 (rt := some .int) (by decide +kernel) mc_180 38 h
-- WindBoat.apart(II)I
set_option maxRecDepth 100000 in
set_option maxHeartbeats 8000000 in
theorem f_181 (a0 : Int32) (a1 : Int32) (μ : wm_M) (Q : Option Value → wm_M → Prop) (h : wm_Wp 0 181 7 [.null, .null, .int (if 0 ≤ (a0 - a1) then (a0 - a1) else 0 - (a0 - a1))] μ Q) : wm_Ok 0 181 [.int a0, .int a1] μ Q := wm_ent (nL := 3) (l := [.int a0, .int a1, .null]) (by decide +kernel) (by decide +kernel) (by decide +kernel) rfl rfl (wm_vc mo_181 (rt := some .int) (by decide +kernel) mc_181 42 h)
-- WindBoat.apart(II)I, the place 7
set_option maxRecDepth 100000 in
set_option maxHeartbeats 8000000 in
theorem f_181_7 (x2 : Int32) (μ : wm_M) (Q : Option Value → wm_M → Prop) (h : Q (some (.int (if ((8 : Int32) - x2) < x2 then ((8 : Int32) - x2) else x2))) μ) : wm_Wp 0 181 7 [.null, .null, .int x2] μ Q := wm_vc mo_181 (rt := some .int) (by decide +kernel) mc_181 42 h
-- WindBoat.beside(II)I
set_option maxRecDepth 100000 in
set_option maxHeartbeats 8000000 in
theorem f_182 (a0 : Int32) (a1 : Int32) (μ : wm_M) (Q : Option Value → wm_M → Prop) (h : (¬ (6 : Int32) = 0 ∧ (¬ (6 : Int32) = 0 ∧ ((a1 = (7 : Int32) → wm_Wp 0 182 21 [.null, .int a1, .int (a0 / (6 : Int32)), .int (a0 - a0 / (6 : Int32) * (6 : Int32)), .null] μ Q) ∧ (¬ a1 = (7 : Int32) → (((1 : Int32) < a1 → wm_Wp 0 182 27 [.null, .int a1, .int (a0 / (6 : Int32)), .int (a0 - a0 / (6 : Int32) * (6 : Int32)), .null] μ Q) ∧ (¬ (1 : Int32) < a1 → wm_Wp 0 182 21 [.null, .int a1, .int (a0 / (6 : Int32)), .int (a0 - a0 / (6 : Int32) * (6 : Int32)), .null] μ Q))))))) : wm_Ok 0 182 [.int a0, .int a1] μ Q := wm_ent (nL := 5) (l := [.int a0, .int a1, .null, .null, .null]) (by decide +kernel) (by decide +kernel) (by decide +kernel) rfl rfl (wm_vc mo_182 (rt := some .int) (by decide +kernel) mc_182 138 h)
-- WindBoat.beside(II)I, the place 21
set_option maxRecDepth 100000 in
set_option maxHeartbeats 8000000 in
theorem f_182_21 (x1 : Int32) (x2 : Int32) (x3 : Int32) (μ : wm_M) (Q : Option Value → wm_M → Prop) (h : wm_Wp 0 182 40 [.null, .int x1, .int (x2 + (-1 : Int32)), .int x3, .null] μ Q) : wm_Wp 0 182 21 [.null, .int x1, .int x2, .int x3, .null] μ Q := wm_vc mo_182 (rt := some .int) (by decide +kernel) mc_182 138 h
-- WindBoat.beside(II)I, the place 27
set_option maxRecDepth 100000 in
set_option maxHeartbeats 8000000 in
theorem f_182_27 (x1 : Int32) (x2 : Int32) (x3 : Int32) (μ : wm_M) (Q : Option Value → wm_M → Prop) (h : ((x1 < (3 : Int32) → wm_Wp 0 182 40 [.null, .int x1, .int x2, .int x3, .null] μ Q) ∧ (¬ x1 < (3 : Int32) → (((5 : Int32) < x1 → wm_Wp 0 182 40 [.null, .int x1, .int x2, .int x3, .null] μ Q) ∧ (¬ (5 : Int32) < x1 → wm_Wp 0 182 40 [.null, .int x1, .int (x2 + (1 : Int32)), .int x3, .null] μ Q))))) : wm_Wp 0 182 27 [.null, .int x1, .int x2, .int x3, .null] μ Q := wm_vc mo_182 (rt := some .int) (by decide +kernel) mc_182 138 h
-- WindBoat.beside(II)I, the place 40
set_option maxRecDepth 100000 in
set_option maxHeartbeats 8000000 in
theorem f_182_40 (x1 : Int32) (x2 : Int32) (x3 : Int32) (μ : wm_M) (Q : Option Value → wm_M → Prop) (h : ((x1 < (1 : Int32) → wm_Wp 0 182 56 [.null, .int x1, .int x2, .int x3, .null] μ Q) ∧ (¬ x1 < (1 : Int32) → (((3 : Int32) < x1 → wm_Wp 0 182 56 [.null, .int x1, .int x2, .int x3, .null] μ Q) ∧ (¬ (3 : Int32) < x1 → wm_Wp 0 182 64 [.null, .null, .int x2, .int (x3 + (1 : Int32)), .null] μ Q))))) : wm_Wp 0 182 40 [.null, .int x1, .int x2, .int x3, .null] μ Q := wm_vc mo_182 (rt := some .int) (by decide +kernel) mc_182 138 h
-- WindBoat.beside(II)I, the place 56
set_option maxRecDepth 100000 in
set_option maxHeartbeats 8000000 in
theorem f_182_56 (x1 : Int32) (x2 : Int32) (x3 : Int32) (μ : wm_M) (Q : Option Value → wm_M → Prop) (h : ((x1 < (5 : Int32) → wm_Wp 0 182 64 [.null, .null, .int x2, .int x3, .null] μ Q) ∧ (¬ x1 < (5 : Int32) → wm_Wp 0 182 64 [.null, .null, .int x2, .int (x3 + (-1 : Int32)), .null] μ Q))) : wm_Wp 0 182 56 [.null, .int x1, .int x2, .int x3, .null] μ Q := wm_vc mo_182 (rt := some .int) (by decide +kernel) mc_182 138 h
-- WindBoat.beside(II)I, the place 64
set_option maxRecDepth 100000 in
set_option maxHeartbeats 8000000 in
theorem f_182_64 (x2 : Int32) (x3 : Int32) (μ : wm_M) (Q : Option Value → wm_M → Prop) (h : wm_OkI 0 178 [.int x2, .int (0 : Int32), .int (5 : Int32)] μ (fun r2 μ1 => ((r2 = (0 : Int32) → wm_Wp 0 182 86 [.null, .null, .int x2, .int x3, .null] μ1 Q) ∧ (¬ r2 = (0 : Int32) → wm_Wp 0 182 73 [.null, .null, .int x2, .int x3, .null] μ1 Q)))) : wm_Wp 0 182 64 [.null, .null, .int x2, .int x3, .null] μ Q := wm_vc mo_182 (rt := some .int) (by decide +kernel) mc_182 138 h
-- WindBoat.beside(II)I, the place 73
set_option maxRecDepth 100000 in
set_option maxHeartbeats 8000000 in
theorem f_182_73 (x2 : Int32) (x3 : Int32) (μ : wm_M) (Q : Option Value → wm_M → Prop) (h : wm_OkI 0 178 [.int x3, .int (0 : Int32), .int (5 : Int32)] μ (fun r2 μ1 => ((r2 = (0 : Int32) → wm_Wp 0 182 86 [.null, .null, .int x2, .int x3, .null] μ1 Q) ∧ (¬ r2 = (0 : Int32) → wm_Wp 0 182 82 [.null, .null, .int x2, .int x3, .null] μ1 Q)))) : wm_Wp 0 182 73 [.null, .null, .int x2, .int x3, .null] μ Q := wm_vc mo_182 (rt := some .int) (by decide +kernel) mc_182 138 h
-- WindBoat.beside(II)I, the place 82
set_option maxRecDepth 100000 in
set_option maxHeartbeats 8000000 in
theorem f_182_82 (x2 : Int32) (x3 : Int32) (μ : wm_M) (Q : Option Value → wm_M → Prop) (h : (((1 : Int32) = (0 : Int32) → wm_Wp 0 182 103 [.null, .null, .null, .null, .null] μ Q) ∧ (¬ (1 : Int32) = (0 : Int32) → Q (some (.int ((x2 * (6 : Int32)) + x3))) μ))) : wm_Wp 0 182 82 [.null, .null, .int x2, .int x3, .null] μ Q := wm_vc mo_182 (rt := some .int) (by decide +kernel) mc_182 138 h
-- WindBoat.beside(II)I, the place 86
set_option maxRecDepth 100000 in
set_option maxHeartbeats 8000000 in
theorem f_182_86 (x2 : Int32) (x3 : Int32) (μ : wm_M) (Q : Option Value → wm_M → Prop) (h : (((0 : Int32) = (0 : Int32) → wm_Wp 0 182 103 [.null, .null, .null, .null, .null] μ Q) ∧ (¬ (0 : Int32) = (0 : Int32) → Q (some (.int ((x2 * (6 : Int32)) + x3))) μ))) : wm_Wp 0 182 86 [.null, .null, .int x2, .int x3, .null] μ Q := wm_vc mo_182 (rt := some .int) (by decide +kernel) mc_182 138 h
-- WindBoat.beside(II)I, the place 103
set_option maxRecDepth 100000 in
set_option maxHeartbeats 8000000 in
theorem f_182_103 (μ : wm_M) (Q : Option Value → wm_M → Prop) (h : Q (some (.int (-1 : Int32))) μ) : wm_Wp 0 182 103 [.null, .null, .null, .null, .null] μ Q := wm_vc mo_182 (rt := some .int) (by decide +kernel) mc_182 138 h
-- WindBoat.stateOf(III)I
set_option maxRecDepth 100000 in
set_option maxHeartbeats 8000000 in
theorem f_183 (a0 : Int32) (a1 : Int32) (a2 : Int32) (μ : wm_M) (Q : Option Value → wm_M → Prop) (h : Q (some (.int (((3 : Int32) * (((8 : Int32) * a0) + a1)) + a2))) μ) : wm_Ok 0 183 [.int a0, .int a1, .int a2] μ Q := wm_ent (nL := 3) (l := [.int a0, .int a1, .int a2]) (by decide +kernel) (by decide +kernel) (by decide +kernel) rfl rfl (wm_vc mo_183 (rt := some .int) (by decide +kernel) mc_183 40 h)
-- WindBoatModel.isIn(III)Z
set_option maxRecDepth 100000 in
set_option maxHeartbeats 8000000 in
theorem f_184 (a0 : Int32) (a1 : Int32) (a2 : Int32) (μ : wm_M) (Q : Option Value → wm_M → Prop) (h : ((a0 < a1 → wm_Wp 0 184 14 [.null, .null, .null] μ Q) ∧ (¬ a0 < a1 → ((a2 < a0 → wm_Wp 0 184 14 [.null, .null, .null] μ Q) ∧ (¬ a2 < a0 → (((1 : Int32) = 0 ∨ (1 : Int32) = 1) ∧ Q (some (.int (1 : Int32))) μ)))))) : wm_Ok 0 184 [.int a0, .int a1, .int a2] μ Q := wm_ent (nL := 3) (l := [.int a0, .int a1, .int a2]) (by decide +kernel) (by decide +kernel) (by decide +kernel) rfl rfl (wm_vc mo_184 (rt := some .boolean) (by decide +kernel) mc_184 40 h)
-- WindBoatModel.isIn(III)Z, the place 14
set_option maxRecDepth 100000 in
set_option maxHeartbeats 8000000 in
theorem f_184_14 (μ : wm_M) (Q : Option Value → wm_M → Prop) (h : (((0 : Int32) = 0 ∨ (0 : Int32) = 1) ∧ Q (some (.int (0 : Int32))) μ)) : wm_Wp 0 184 14 [.null, .null, .null] μ Q := wm_vc mo_184 (rt := some .boolean) (by decide +kernel) mc_184 40 h
-- WindBoatModel.refuse(I)I
set_option maxRecDepth 100000 in
set_option maxHeartbeats 8000000 in
theorem f_185 (a1 : Int32) (μ : wm_M) (Q : Option Value → wm_M → Prop) (h : (vp_in (-a1) 9 ∧ (vp_in (-a1) 9 ∧ wm_Wp 0 185 11 [.null, .int a1] (wm_si μ 90 ((-a1)).toNatClampNeg ((μ.1 90 ((-a1)).toNatClampNeg) + (1 : Int32))) Q))) : wm_Ok 0 185 [.ref 89, .int a1] μ Q := wm_ent (nL := 2) (l := [.ref 89, .int a1]) (by decide +kernel) (by decide +kernel) (by decide +kernel) rfl rfl (wm_vc mo_185 (rt := some .int) (by decide +kernel) mc_185 42 h)
-- WindBoatModel.refuse(I)I, the place 11
set_option maxRecDepth 100000 in
set_option maxHeartbeats 8000000 in
theorem f_185_11 (x1 : Int32) (μ : wm_M) (Q : Option Value → wm_M → Prop) (h : Q (some (.int x1)) μ) : wm_Wp 0 185 11 [.null, .int x1] μ Q := wm_vc mo_185 (rt := some .int) (by decide +kernel) mc_185 42 h
-- WindBoatModel.hush(I)I
set_option maxRecDepth 100000 in
set_option maxHeartbeats 8000000 in
theorem f_186 (a1 : Int32) (μ : wm_M) (Q : Option Value → wm_M → Prop) (h : (vp_in (-a1) 9 ∧ (vp_in (-a1) 9 ∧ wm_Wp 0 186 11 [.null, .null] (wm_si μ 90 ((-a1)).toNatClampNeg ((μ.1 90 ((-a1)).toNatClampNeg) + (1 : Int32))) Q))) : wm_Ok 0 186 [.ref 89, .int a1] μ Q := wm_ent (nL := 2) (l := [.ref 89, .int a1]) (by decide +kernel) (by decide +kernel) (by decide +kernel) rfl rfl (wm_vc mo_186 (rt := some .int) (by decide +kernel) mc_186 42 h)
-- WindBoatModel.hush(I)I, the place 11
set_option maxRecDepth 100000 in
set_option maxHeartbeats 8000000 in
theorem f_186_11 (μ : wm_M) (Q : Option Value → wm_M → Prop) (h : Q (some (.int (0 : Int32))) μ) : wm_Wp 0 186 11 [.null, .null] μ Q := wm_vc mo_186 (rt := some .int) (by decide +kernel) mc_186 42 h
-- WindBoatModel.g(I)I
set_option maxRecDepth 100000 in
set_option maxHeartbeats 8000000 in
theorem f_188 (a1 : Int32) (μ : wm_M) (Q : Option Value → wm_M → Prop) (h : (vp_in ((2040 : Int32) + a1) 2060 ∧ Q (some (.int (μ.1 91 (((2040 : Int32) + a1)).toNatClampNeg))) μ)) : wm_Ok 0 188 [.ref 89, .int a1] μ Q := wm_ent (nL := 2) (l := [.ref 89, .int a1]) (by decide +kernel) (by decide +kernel) (by decide +kernel) rfl rfl (wm_vc mo_188 (rt := some .int) (by decide +kernel) mc_188 34 h)
-- WindBoatModel.isCell(I)Z
set_option maxRecDepth 100000 in
set_option maxHeartbeats 8000000 in
theorem f_189 (a0 : Int32) (μ : wm_M) (Q : Option Value → wm_M → Prop) (h : wm_OkI 0 184 [.int a0, .int (0 : Int32), .int (35 : Int32)] μ (fun r2 μ1 => ((r2 = 0 ∨ r2 = 1) ∧ Q (some (.int r2)) μ1))) : wm_Ok 0 189 [.int a0] μ Q := wm_ent (nL := 1) (l := [.int a0]) (by decide +kernel) (by decide +kernel) (by decide +kernel) rfl rfl (wm_vc mo_189 (rt := some .boolean) (by decide +kernel) mc_189 30 h)
-- WindBoatModel.isHour(I)Z
set_option maxRecDepth 100000 in
set_option maxHeartbeats 8000000 in
theorem f_190 (a0 : Int32) (μ : wm_M) (Q : Option Value → wm_M → Prop) (h : wm_OkI 0 184 [.int a0, .int (0 : Int32), .int (11 : Int32)] μ (fun r2 μ1 => ((r2 = 0 ∨ r2 = 1) ∧ Q (some (.int r2)) μ1))) : wm_Ok 0 190 [.int a0] μ Q := wm_ent (nL := 1) (l := [.int a0]) (by decide +kernel) (by decide +kernel) (by decide +kernel) rfl rfl (wm_vc mo_190 (rt := some .boolean) (by decide +kernel) mc_190 30 h)
-- WindBoatModel.isSail(I)Z
set_option maxRecDepth 100000 in
set_option maxHeartbeats 8000000 in
theorem f_191 (a1 : Int32) (μ : wm_M) (Q : Option Value → wm_M → Prop) (h : wm_OkI 0 188 [.ref 89, .int (0 : Int32)] μ (fun r2 μ1 => wm_OkI 0 184 [.int a1, .int (0 : Int32), .int (r2 - (1 : Int32))] μ1 (fun r4 μ3 => ((r4 = 0 ∨ r4 = 1) ∧ Q (some (.int r4)) μ3)))) : wm_Ok 0 191 [.ref 89, .int a1] μ Q := wm_ent (nL := 2) (l := [.ref 89, .int a1]) (by decide +kernel) (by decide +kernel) (by decide +kernel) rfl rfl (wm_vc mo_191 (rt := some .boolean) (by decide +kernel) mc_191 38 h)
-- WindBoatModel.hourOf(I)I
set_option maxRecDepth 100000 in
set_option maxHeartbeats 8000000 in
theorem f_192 (a0 : Int32) (μ : wm_M) (Q : Option Value → wm_M → Prop) (h : (¬ (10 : Int32) = 0 ∧ (((12 : Int32) ≤ (a0 / (10 : Int32)) → wm_Wp 0 192 16 [.null] μ Q) ∧ (¬ (12 : Int32) ≤ (a0 / (10 : Int32)) → (¬ (10 : Int32) = 0 ∧ Q (some (.int (a0 / (10 : Int32)))) μ))))) : wm_Ok 0 192 [.int a0] μ Q := wm_ent (nL := 1) (l := [.int a0]) (by decide +kernel) (by decide +kernel) (by decide +kernel) rfl rfl (wm_vc mo_192 (rt := some .int) (by decide +kernel) mc_192 42 h)
-- WindBoatModel.hourOf(I)I, the place 16
set_option maxRecDepth 100000 in
set_option maxHeartbeats 8000000 in
theorem f_192_16 (μ : wm_M) (Q : Option Value → wm_M → Prop) (h : Q (some (.int (11 : Int32))) μ) : wm_Wp 0 192 16 [.null] μ Q := wm_vc mo_192 (rt := some .int) (by decide +kernel) mc_192 42 h
-- WindBoatModel.cell(III)I
set_option maxRecDepth 100000 in
set_option maxHeartbeats 8000000 in
theorem f_193 (a1 : Int32) (a2 : Int32) (a3 : Int32) (μ : wm_M) (Q : Option Value → wm_M → Prop) (h : wm_OkI 0 189 [.int a1] μ (fun r2 μ1 => ((r2 = (0 : Int32) → wm_Wp 0 193 7 [.ref 89, .null, .null, .null, .null] μ1 Q) ∧ (¬ r2 = (0 : Int32) → wm_Wp 0 193 14 [.ref 89, .int a1, .int a2, .int a3, .null] μ1 Q)))) : wm_Ok 0 193 [.ref 89, .int a1, .int a2, .int a3] μ Q := wm_ent (nL := 5) (l := [.ref 89, .int a1, .int a2, .int a3, .null]) (by decide +kernel) (by decide +kernel) (by decide +kernel) rfl rfl (wm_vc mo_193 (rt := some .int) (by decide +kernel) mc_193 108 h)
-- WindBoatModel.cell(III)I, the place 7
set_option maxRecDepth 100000 in
set_option maxHeartbeats 8000000 in
theorem f_193_7 (μ : wm_M) (Q : Option Value → wm_M → Prop) (h : wm_OkI 0 185 [.ref 89, .int (-3 : Int32)] μ (fun r2 μ1 => Q (some (.int r2)) μ1)) : wm_Wp 0 193 7 [.ref 89, .null, .null, .null, .null] μ Q := wm_vc mo_193 (rt := some .int) (by decide +kernel) mc_193 108 h
-- WindBoatModel.cell(III)I, the place 14
set_option maxRecDepth 100000 in
set_option maxHeartbeats 8000000 in
theorem f_193_14 (x1 : Int32) (x2 : Int32) (x3 : Int32) (μ : wm_M) (Q : Option Value → wm_M → Prop) (h : wm_OkI 0 184 [.int x2, .int (0 : Int32), .int (1 : Int32)] μ (fun r2 μ1 => ((r2 = (0 : Int32) → wm_Wp 0 193 33 [.ref 89, .null, .null, .null, .null] μ1 Q) ∧ (¬ r2 = (0 : Int32) → wm_Wp 0 193 23 [.ref 89, .int x1, .int x2, .int x3, .null] μ1 Q)))) : wm_Wp 0 193 14 [.ref 89, .int x1, .int x2, .int x3, .null] μ Q := wm_vc mo_193 (rt := some .int) (by decide +kernel) mc_193 108 h
-- WindBoatModel.cell(III)I, the place 23
set_option maxRecDepth 100000 in
set_option maxHeartbeats 8000000 in
theorem f_193_23 (x1 : Int32) (x2 : Int32) (x3 : Int32) (μ : wm_M) (Q : Option Value → wm_M → Prop) (h : wm_OkI 0 184 [.int x3, .int (0 : Int32), .int (90 : Int32)] μ (fun r2 μ1 => ((r2 = (0 : Int32) → wm_Wp 0 193 33 [.ref 89, .null, .null, .null, .null] μ1 Q) ∧ (¬ r2 = (0 : Int32) → wm_Wp 0 193 40 [.ref 89, .int x1, .int x2, .int x3, .null] μ1 Q)))) : wm_Wp 0 193 23 [.ref 89, .int x1, .int x2, .int x3, .null] μ Q := wm_vc mo_193 (rt := some .int) (by decide +kernel) mc_193 108 h
-- WindBoatModel.cell(III)I, the place 33
set_option maxRecDepth 100000 in
set_option maxHeartbeats 8000000 in
theorem f_193_33 (μ : wm_M) (Q : Option Value → wm_M → Prop) (h : wm_OkI 0 185 [.ref 89, .int (-7 : Int32)] μ (fun r2 μ1 => Q (some (.int r2)) μ1)) : wm_Wp 0 193 33 [.ref 89, .null, .null, .null, .null] μ Q := wm_vc mo_193 (rt := some .int) (by decide +kernel) mc_193 108 h
-- WindBoatModel.cell(III)I, the place 40
set_option maxRecDepth 100000 in
set_option maxHeartbeats 8000000 in
theorem f_193_40 (x1 : Int32) (x2 : Int32) (x3 : Int32) (μ : wm_M) (Q : Option Value → wm_M → Prop) (h : (vp_in ((0 : Int32) + x1) 2060 ∧ (vp_in ((0 : Int32) + x1) 2060 ∧ wm_Wp 0 193 59 [.ref 89, .int x1, .null, .int x3, .int (μ.1 91 (((0 : Int32) + x1)).toNatClampNeg)] (wm_si μ 91 (((0 : Int32) + x1)).toNatClampNeg x2) Q))) : wm_Wp 0 193 40 [.ref 89, .int x1, .int x2, .int x3, .null] μ Q := wm_vc mo_193 (rt := some .int) (by decide +kernel) mc_193 108 h
-- WindBoatModel.cell(III)I, the place 59
set_option maxRecDepth 100000 in
set_option maxHeartbeats 8000000 in
theorem f_193_59 (x1 : Int32) (x3 : Int32) (x4 : Int32) (μ : wm_M) (Q : Option Value → wm_M → Prop) (h : (vp_in ((36 : Int32) + x1) 2060 ∧ wm_Wp 0 193 69 [.null, .null, .null, .null, .int x4] (wm_si μ 91 (((36 : Int32) + x1)).toNatClampNeg x3) Q)) : wm_Wp 0 193 59 [.ref 89, .int x1, .null, .int x3, .int x4] μ Q := wm_vc mo_193 (rt := some .int) (by decide +kernel) mc_193 108 h
-- WindBoatModel.cell(III)I, the place 69
set_option maxRecDepth 100000 in
set_option maxHeartbeats 8000000 in
theorem f_193_69 (x4 : Int32) (μ : wm_M) (Q : Option Value → wm_M → Prop) (h : Q (some (.int x4)) μ) : wm_Wp 0 193 69 [.null, .null, .null, .null, .int x4] μ Q := wm_vc mo_193 (rt := some .int) (by decide +kernel) mc_193 108 h
-- WindBoatModel.isWind(I)Z
set_option maxRecDepth 100000 in
set_option maxHeartbeats 8000000 in
theorem f_194 (a0 : Int32) (μ : wm_M) (Q : Option Value → wm_M → Prop) (h : ((a0 < (0 : Int32) → wm_Wp 0 194 31 [.null] μ Q) ∧ (¬ a0 < (0 : Int32) → (¬ (10 : Int32) = 0 ∧ wm_OkI 0 184 [.int (a0 - a0 / (10 : Int32) * (10 : Int32)), .int (0 : Int32), .int (6 : Int32)] μ (fun r2 μ1 => ((r2 = (0 : Int32) → wm_Wp 0 194 31 [.null] μ1 Q) ∧ (¬ r2 = (0 : Int32) → wm_Wp 0 194 17 [.int a0] μ1 Q))))))) : wm_Ok 0 194 [.int a0] μ Q := wm_ent (nL := 1) (l := [.int a0]) (by decide +kernel) (by decide +kernel) (by decide +kernel) rfl rfl (wm_vc mo_194 (rt := some .boolean) (by decide +kernel) mc_194 56 h)
-- WindBoatModel.isWind(I)Z, the place 17
set_option maxRecDepth 100000 in
set_option maxHeartbeats 8000000 in
theorem f_194_17 (x0 : Int32) (μ : wm_M) (Q : Option Value → wm_M → Prop) (h : (¬ (10 : Int32) = 0 ∧ wm_OkI 0 190 [.int (x0 / (10 : Int32))] μ (fun r2 μ1 => ((r2 = (0 : Int32) → wm_Wp 0 194 31 [.null] μ1 Q) ∧ (¬ r2 = (0 : Int32) → wm_Wp 0 194 27 [.null] μ1 Q))))) : wm_Wp 0 194 17 [.int x0] μ Q := wm_vc mo_194 (rt := some .boolean) (by decide +kernel) mc_194 56 h
-- WindBoatModel.isWind(I)Z, the place 27
set_option maxRecDepth 100000 in
set_option maxHeartbeats 8000000 in
theorem f_194_27 (μ : wm_M) (Q : Option Value → wm_M → Prop) (h : (((1 : Int32) = 0 ∨ (1 : Int32) = 1) ∧ Q (some (.int (1 : Int32))) μ)) : wm_Wp 0 194 27 [.null] μ Q := wm_vc mo_194 (rt := some .boolean) (by decide +kernel) mc_194 56 h
-- WindBoatModel.isWind(I)Z, the place 31
set_option maxRecDepth 100000 in
set_option maxHeartbeats 8000000 in
theorem f_194_31 (μ : wm_M) (Q : Option Value → wm_M → Prop) (h : (((0 : Int32) = 0 ∨ (0 : Int32) = 1) ∧ Q (some (.int (0 : Int32))) μ)) : wm_Wp 0 194 31 [.null] μ Q := wm_vc mo_194 (rt := some .boolean) (by decide +kernel) mc_194 56 h
-- WindBoatModel.spot(I)I
set_option maxRecDepth 100000 in
set_option maxHeartbeats 8000000 in
theorem f_195 (a0 : Int32) (μ : wm_M) (Q : Option Value → wm_M → Prop) (h : (¬ (10 : Int32) = 0 ∧ (¬ (10 : Int32) = 0 ∧ Q (some (.int (((12 : Int32) * (a0 - a0 / (10 : Int32) * (10 : Int32))) + (a0 / (10 : Int32))))) μ))) : wm_Ok 0 195 [.int a0] μ Q := wm_ent (nL := 1) (l := [.int a0]) (by decide +kernel) (by decide +kernel) (by decide +kernel) rfl rfl (wm_vc mo_195 (rt := some .int) (by decide +kernel) mc_195 40 h)
-- WindBoatModel.wind(III)I
set_option maxRecDepth 100000 in
set_option maxHeartbeats 8000000 in
theorem f_196 (a1 : Int32) (a2 : Int32) (a3 : Int32) (μ : wm_M) (Q : Option Value → wm_M → Prop) (h : wm_OkI 0 194 [.int a1] μ (fun r2 μ1 => ((r2 = (0 : Int32) → wm_Wp 0 196 7 [.ref 89, .null, .null, .null, .null, .null] μ1 Q) ∧ (¬ r2 = (0 : Int32) → wm_Wp 0 196 14 [.ref 89, .int a1, .int a2, .int a3, .null, .null] μ1 Q)))) : wm_Ok 0 196 [.ref 89, .int a1, .int a2, .int a3] μ Q := wm_ent (nL := 6) (l := [.ref 89, .int a1, .int a2, .int a3, .null, .null]) (by decide +kernel) (by decide +kernel) (by decide +kernel) rfl rfl (wm_vc mo_196 (rt := some .int) (by decide +kernel) mc_196 148 h)
-- WindBoatModel.wind(III)I, the place 7
set_option maxRecDepth 100000 in
set_option maxHeartbeats 8000000 in
theorem f_196_7 (μ : wm_M) (Q : Option Value → wm_M → Prop) (h : wm_OkI 0 185 [.ref 89, .int (-3 : Int32)] μ (fun r2 μ1 => Q (some (.int r2)) μ1)) : wm_Wp 0 196 7 [.ref 89, .null, .null, .null, .null, .null] μ Q := wm_vc mo_196 (rt := some .int) (by decide +kernel) mc_196 148 h
-- WindBoatModel.wind(III)I, the place 14
set_option maxRecDepth 100000 in
set_option maxHeartbeats 8000000 in
theorem f_196_14 (x1 : Int32) (x2 : Int32) (x3 : Int32) (μ : wm_M) (Q : Option Value → wm_M → Prop) (h : wm_OkI 0 184 [.int x2, .int (0 : Int32), .int (7 : Int32)] μ (fun r2 μ1 => ((r2 = (0 : Int32) → wm_Wp 0 196 34 [.ref 89, .null, .null, .null, .null, .null] μ1 Q) ∧ (¬ r2 = (0 : Int32) → wm_Wp 0 196 24 [.ref 89, .int x1, .int x2, .int x3, .null, .null] μ1 Q)))) : wm_Wp 0 196 14 [.ref 89, .int x1, .int x2, .int x3, .null, .null] μ Q := wm_vc mo_196 (rt := some .int) (by decide +kernel) mc_196 148 h
-- WindBoatModel.wind(III)I, the place 24
set_option maxRecDepth 100000 in
set_option maxHeartbeats 8000000 in
theorem f_196_24 (x1 : Int32) (x2 : Int32) (x3 : Int32) (μ : wm_M) (Q : Option Value → wm_M → Prop) (h : wm_OkI 0 184 [.int x3, .int (0 : Int32), .int (39 : Int32)] μ (fun r2 μ1 => ((r2 = (0 : Int32) → wm_Wp 0 196 34 [.ref 89, .null, .null, .null, .null, .null] μ1 Q) ∧ (¬ r2 = (0 : Int32) → wm_Wp 0 196 41 [.ref 89, .int x1, .int x2, .int x3, .null, .null] μ1 Q)))) : wm_Wp 0 196 24 [.ref 89, .int x1, .int x2, .int x3, .null, .null] μ Q := wm_vc mo_196 (rt := some .int) (by decide +kernel) mc_196 148 h
-- WindBoatModel.wind(III)I, the place 34
set_option maxRecDepth 100000 in
set_option maxHeartbeats 8000000 in
theorem f_196_34 (μ : wm_M) (Q : Option Value → wm_M → Prop) (h : wm_OkI 0 185 [.ref 89, .int (-7 : Int32)] μ (fun r2 μ1 => Q (some (.int r2)) μ1)) : wm_Wp 0 196 34 [.ref 89, .null, .null, .null, .null, .null] μ Q := wm_vc mo_196 (rt := some .int) (by decide +kernel) mc_196 148 h
-- WindBoatModel.wind(III)I, the place 41
set_option maxRecDepth 100000 in
set_option maxHeartbeats 8000000 in
theorem f_196_41 (x1 : Int32) (x2 : Int32) (x3 : Int32) (μ : wm_M) (Q : Option Value → wm_M → Prop) (h : wm_OkI 0 195 [.int x1] μ (fun r2 μ1 => wm_Wp 0 196 47 [.ref 89, .null, .int x2, .int x3, .int r2, .null] μ1 Q)) : wm_Wp 0 196 41 [.ref 89, .int x1, .int x2, .int x3, .null, .null] μ Q := wm_vc mo_196 (rt := some .int) (by decide +kernel) mc_196 148 h
-- WindBoatModel.wind(III)I, the place 47
set_option maxRecDepth 100000 in
set_option maxHeartbeats 8000000 in
theorem f_196_47 (x2 : Int32) (x3 : Int32) (x4 : Int32) (μ : wm_M) (Q : Option Value → wm_M → Prop) (h : (vp_in ((240 : Int32) + x4) 2060 ∧ (((μ.1 91 (((240 : Int32) + x4)).toNatClampNeg) = (1 : Int32) → (vp_in ((156 : Int32) + x4) 2060 ∧ (vp_in ((72 : Int32) + x4) 2060 ∧ wm_Wp 0 196 90 [.ref 89, .null, .null, .int x3, .int x4, .int (μ.1 91 (((156 : Int32) + x4)).toNatClampNeg)] (wm_si μ 91 (((72 : Int32) + x4)).toNatClampNeg x2) Q))) ∧ (¬ (μ.1 91 (((240 : Int32) + x4)).toNatClampNeg) = (1 : Int32) → wm_Wp 0 196 76 [.ref 89, .null, .int x2, .int x3, .int x4, .null] μ Q)))) : wm_Wp 0 196 47 [.ref 89, .null, .int x2, .int x3, .int x4, .null] μ Q := wm_vc mo_196 (rt := some .int) (by decide +kernel) mc_196 148 h
-- WindBoatModel.wind(III)I, the place 76
set_option maxRecDepth 100000 in
set_option maxHeartbeats 8000000 in
theorem f_196_76 (x2 : Int32) (x3 : Int32) (x4 : Int32) (μ : wm_M) (Q : Option Value → wm_M → Prop) (h : (vp_in ((72 : Int32) + x4) 2060 ∧ wm_Wp 0 196 90 [.ref 89, .null, .null, .int x3, .int x4, .int (-1 : Int32)] (wm_si μ 91 (((72 : Int32) + x4)).toNatClampNeg x2) Q)) : wm_Wp 0 196 76 [.ref 89, .null, .int x2, .int x3, .int x4, .null] μ Q := wm_vc mo_196 (rt := some .int) (by decide +kernel) mc_196 148 h
-- WindBoatModel.wind(III)I, the place 90
set_option maxRecDepth 100000 in
set_option maxHeartbeats 8000000 in
theorem f_196_90 (x3 : Int32) (x4 : Int32) (x5 : Int32) (μ : wm_M) (Q : Option Value → wm_M → Prop) (h : (vp_in ((156 : Int32) + x4) 2060 ∧ wm_Wp 0 196 102 [.ref 89, .null, .null, .null, .int x4, .int x5] (wm_si μ 91 (((156 : Int32) + x4)).toNatClampNeg x3) Q)) : wm_Wp 0 196 90 [.ref 89, .null, .null, .int x3, .int x4, .int x5] μ Q := wm_vc mo_196 (rt := some .int) (by decide +kernel) mc_196 148 h
-- WindBoatModel.wind(III)I, the place 102
set_option maxRecDepth 100000 in
set_option maxHeartbeats 8000000 in
theorem f_196_102 (x4 : Int32) (x5 : Int32) (μ : wm_M) (Q : Option Value → wm_M → Prop) (h : (vp_in ((240 : Int32) + x4) 2060 ∧ wm_Wp 0 196 114 [.null, .null, .null, .null, .null, .int x5] (wm_si μ 91 (((240 : Int32) + x4)).toNatClampNeg (1 : Int32)) Q)) : wm_Wp 0 196 102 [.ref 89, .null, .null, .null, .int x4, .int x5] μ Q := wm_vc mo_196 (rt := some .int) (by decide +kernel) mc_196 148 h
-- WindBoatModel.wind(III)I, the place 114
set_option maxRecDepth 100000 in
set_option maxHeartbeats 8000000 in
theorem f_196_114 (x5 : Int32) (μ : wm_M) (Q : Option Value → wm_M → Prop) (h : Q (some (.int x5)) μ) : wm_Wp 0 196 114 [.null, .null, .null, .null, .null, .int x5] μ Q := wm_vc mo_196 (rt := some .int) (by decide +kernel) mc_196 148 h
-- WindBoatModel.lastTold(II)I
set_option maxRecDepth 100000 in
set_option maxHeartbeats 8000000 in
theorem f_197 (a1 : Int32) (a2 : Int32) (μ : wm_M) (Q : Option Value → wm_M → Prop) (h : wm_Wp 0 197 2 [.ref 89, .int a1, .null, .int a2] μ Q) : wm_Ok 0 197 [.ref 89, .int a1, .int a2] μ Q := wm_ent (nL := 4) (l := [.ref 89, .int a1, .int a2, .null]) (by decide +kernel) (by decide +kernel) (by decide +kernel) rfl rfl (wm_vc mo_197 (rt := some .int) (by decide +kernel) mc_197 58 h)
-- WindBoatModel.lastTold(II)I, the place 2
set_option maxRecDepth 100000 in
set_option maxHeartbeats 8000000 in
theorem f_197_2 (x1 : Int32) (x3 : Int32) (μ : wm_M) (Q : Option Value → wm_M → Prop) (h : ((x3 < (0 : Int32) → wm_Wp 0 197 30 [.null, .null, .null, .int x3] μ Q) ∧ (¬ x3 < (0 : Int32) → (vp_in (((240 : Int32) + ((12 : Int32) * x1)) + x3) 2060 ∧ (((μ.1 91 ((((240 : Int32) + ((12 : Int32) * x1)) + x3)).toNatClampNeg) = (0 : Int32) → wm_Wp 0 197 24 [.ref 89, .int x1, .null, .int x3] μ Q) ∧ (¬ (μ.1 91 ((((240 : Int32) + ((12 : Int32) * x1)) + x3)).toNatClampNeg) = (0 : Int32) → wm_Wp 0 197 30 [.null, .null, .null, .int x3] μ Q)))))) : wm_Wp 0 197 2 [.ref 89, .int x1, .null, .int x3] μ Q := wm_vc mo_197 (rt := some .int) (by decide +kernel) mc_197 58 h
-- WindBoatModel.lastTold(II)I, the place 24
set_option maxRecDepth 100000 in
set_option maxHeartbeats 8000000 in
theorem f_197_24 (x1 : Int32) (x3 : Int32) (μ : wm_M) (Q : Option Value → wm_M → Prop) (h : wm_Wp 0 197 2 [.ref 89, .int x1, .null, .int (x3 + (-1 : Int32))] μ Q) : wm_Wp 0 197 24 [.ref 89, .int x1, .null, .int x3] μ Q := wm_vc mo_197 (rt := some .int) (by decide +kernel) mc_197 58 h
-- WindBoatModel.lastTold(II)I, the place 30
set_option maxRecDepth 100000 in
set_option maxHeartbeats 8000000 in
theorem f_197_30 (x3 : Int32) (μ : wm_M) (Q : Option Value → wm_M → Prop) (h : Q (some (.int x3)) μ) : wm_Wp 0 197 30 [.null, .null, .null, .int x3] μ Q := wm_vc mo_197 (rt := some .int) (by decide +kernel) mc_197 58 h
-- WindBoatModel.fromOf(II)I
set_option maxRecDepth 100000 in
set_option maxHeartbeats 8000000 in
theorem f_198 (a1 : Int32) (a2 : Int32) (μ : wm_M) (Q : Option Value → wm_M → Prop) (h : wm_OkI 0 197 [.ref 89, .int a1, .int a2] μ (fun r2 μ1 => wm_Wp 0 198 7 [.ref 89, .int a1, .null, .int r2] μ1 Q)) : wm_Ok 0 198 [.ref 89, .int a1, .int a2] μ Q := wm_ent (nL := 4) (l := [.ref 89, .int a1, .int a2, .null]) (by decide +kernel) (by decide +kernel) (by decide +kernel) rfl rfl (wm_vc mo_198 (rt := some .int) (by decide +kernel) mc_198 60 h)
-- WindBoatModel.fromOf(II)I, the place 7
set_option maxRecDepth 100000 in
set_option maxHeartbeats 8000000 in
theorem f_198_7 (x1 : Int32) (x3 : Int32) (μ : wm_M) (Q : Option Value → wm_M → Prop) (h : (((0 : Int32) ≤ x3 → wm_Wp 0 198 15 [.ref 89, .int x1, .null, .int x3] μ Q) ∧ (¬ (0 : Int32) ≤ x3 → Q (some (.int (0 : Int32))) μ))) : wm_Wp 0 198 7 [.ref 89, .int x1, .null, .int x3] μ Q := wm_vc mo_198 (rt := some .int) (by decide +kernel) mc_198 60 h
-- WindBoatModel.fromOf(II)I, the place 15
set_option maxRecDepth 100000 in
set_option maxHeartbeats 8000000 in
theorem f_198_15 (x1 : Int32) (x3 : Int32) (μ : wm_M) (Q : Option Value → wm_M → Prop) (h : (vp_in (((72 : Int32) + ((12 : Int32) * x1)) + x3) 2060 ∧ Q (some (.int (μ.1 91 ((((72 : Int32) + ((12 : Int32) * x1)) + x3)).toNatClampNeg))) μ)) : wm_Wp 0 198 15 [.ref 89, .int x1, .null, .int x3] μ Q := wm_vc mo_198 (rt := some .int) (by decide +kernel) mc_198 60 h
-- WindBoatModel.forceOf(II)I
set_option maxRecDepth 100000 in
set_option maxHeartbeats 8000000 in
theorem f_199 (a1 : Int32) (a2 : Int32) (μ : wm_M) (Q : Option Value → wm_M → Prop) (h : wm_OkI 0 197 [.ref 89, .int a1, .int a2] μ (fun r2 μ1 => wm_Wp 0 199 7 [.ref 89, .int a1, .null, .int r2] μ1 Q)) : wm_Ok 0 199 [.ref 89, .int a1, .int a2] μ Q := wm_ent (nL := 4) (l := [.ref 89, .int a1, .int a2, .null]) (by decide +kernel) (by decide +kernel) (by decide +kernel) rfl rfl (wm_vc mo_199 (rt := some .int) (by decide +kernel) mc_199 60 h)
-- WindBoatModel.forceOf(II)I, the place 7
set_option maxRecDepth 100000 in
set_option maxHeartbeats 8000000 in
theorem f_199_7 (x1 : Int32) (x3 : Int32) (μ : wm_M) (Q : Option Value → wm_M → Prop) (h : (((0 : Int32) ≤ x3 → wm_Wp 0 199 15 [.ref 89, .int x1, .null, .int x3] μ Q) ∧ (¬ (0 : Int32) ≤ x3 → Q (some (.int (0 : Int32))) μ))) : wm_Wp 0 199 7 [.ref 89, .int x1, .null, .int x3] μ Q := wm_vc mo_199 (rt := some .int) (by decide +kernel) mc_199 60 h
-- WindBoatModel.forceOf(II)I, the place 15
set_option maxRecDepth 100000 in
set_option maxHeartbeats 8000000 in
theorem f_199_15 (x1 : Int32) (x3 : Int32) (μ : wm_M) (Q : Option Value → wm_M → Prop) (h : (vp_in (((156 : Int32) + ((12 : Int32) * x1)) + x3) 2060 ∧ Q (some (.int (μ.1 91 ((((156 : Int32) + ((12 : Int32) * x1)) + x3)).toNatClampNeg))) μ)) : wm_Wp 0 199 15 [.ref 89, .int x1, .null, .int x3] μ Q := wm_vc mo_199 (rt := some .int) (by decide +kernel) mc_199 60 h
-- WindBoatModel.forceIn(III)I
set_option maxRecDepth 100000 in
set_option maxHeartbeats 8000000 in
theorem f_200 (a1 : Int32) (a2 : Int32) (a3 : Int32) (μ : wm_M) (Q : Option Value → wm_M → Prop) (h : wm_OkI 0 199 [.ref 89, .int a1, .int a2] μ (fun r2 μ1 => (vp_in ((36 : Int32) + a3) 2060 ∧ (¬ (100 : Int32) = 0 ∧ Q (some (.int ((r2 * ((100 : Int32) - (μ1.1 91 (((36 : Int32) + a3)).toNatClampNeg))) / (100 : Int32)))) μ1)))) : wm_Ok 0 200 [.ref 89, .int a1, .int a2, .int a3] μ Q := wm_ent (nL := 4) (l := [.ref 89, .int a1, .int a2, .int a3]) (by decide +kernel) (by decide +kernel) (by decide +kernel) rfl rfl (wm_vc mo_200 (rt := some .int) (by decide +kernel) mc_200 52 h)
-- WindBoatModel.blows(III)I
set_option maxRecDepth 100000 in
set_option maxHeartbeats 8000000 in
theorem f_201 (a1 : Int32) (a2 : Int32) (a3 : Int32) (μ : wm_M) (Q : Option Value → wm_M → Prop) (h : wm_OkI 0 194 [.int a1] μ (fun r2 μ1 => ((r2 = (0 : Int32) → wm_Wp 0 201 14 [.ref 89, .null, .null, .null, .null, .null] μ1 Q) ∧ (¬ r2 = (0 : Int32) → wm_Wp 0 201 7 [.ref 89, .int a1, .int a2, .int a3, .null, .null] μ1 Q)))) : wm_Ok 0 201 [.ref 89, .int a1, .int a2, .int a3] μ Q := wm_ent (nL := 6) (l := [.ref 89, .int a1, .int a2, .int a3, .null, .null]) (by decide +kernel) (by decide +kernel) (by decide +kernel) rfl rfl (wm_vc mo_201 (rt := some .int) (by decide +kernel) mc_201 116 h)
-- WindBoatModel.blows(III)I, the place 7
set_option maxRecDepth 100000 in
set_option maxHeartbeats 8000000 in
theorem f_201_7 (x1 : Int32) (x2 : Int32) (x3 : Int32) (μ : wm_M) (Q : Option Value → wm_M → Prop) (h : wm_OkI 0 189 [.int x2] μ (fun r2 μ1 => ((r2 = (0 : Int32) → wm_Wp 0 201 14 [.ref 89, .null, .null, .null, .null, .null] μ1 Q) ∧ (¬ r2 = (0 : Int32) → wm_Wp 0 201 21 [.ref 89, .int x1, .int x2, .int x3, .null, .null] μ1 Q)))) : wm_Wp 0 201 7 [.ref 89, .int x1, .int x2, .int x3, .null, .null] μ Q := wm_vc mo_201 (rt := some .int) (by decide +kernel) mc_201 116 h
-- WindBoatModel.blows(III)I, the place 14
set_option maxRecDepth 100000 in
set_option maxHeartbeats 8000000 in
theorem f_201_14 (μ : wm_M) (Q : Option Value → wm_M → Prop) (h : wm_OkI 0 185 [.ref 89, .int (-3 : Int32)] μ (fun r2 μ1 => Q (some (.int r2)) μ1)) : wm_Wp 0 201 14 [.ref 89, .null, .null, .null, .null, .null] μ Q := wm_vc mo_201 (rt := some .int) (by decide +kernel) mc_201 116 h
-- WindBoatModel.blows(III)I, the place 21
set_option maxRecDepth 100000 in
set_option maxHeartbeats 8000000 in
theorem f_201_21 (x1 : Int32) (x2 : Int32) (x3 : Int32) (μ : wm_M) (Q : Option Value → wm_M → Prop) (h : (¬ (10 : Int32) = 0 ∧ (¬ (10 : Int32) = 0 ∧ (((x3).toInt < 0 ∨ 3 < (x3).toInt → wm_Wp 0 201 106 [.ref 89, .null, .null, .null, .null, .null] μ Q) ∧ (((x3).toInt = 0 → wm_Wp 0 201 64 [.ref 89, .null, .null, .null, .int (x1 - x1 / (10 : Int32) * (10 : Int32)), .int (x1 / (10 : Int32))] μ Q) ∧ (((x3).toInt = 1 → wm_Wp 0 201 73 [.ref 89, .null, .null, .null, .int (x1 - x1 / (10 : Int32) * (10 : Int32)), .int (x1 / (10 : Int32))] μ Q) ∧ (((x3).toInt = 2 → wm_Wp 0 201 82 [.ref 89, .null, .int x2, .null, .int (x1 - x1 / (10 : Int32) * (10 : Int32)), .int (x1 / (10 : Int32))] μ Q) ∧ (((x3).toInt = 3 → wm_Wp 0 201 92 [.ref 89, .int x1, .null, .null, .null, .null] μ Q) ∧ True)))))))) : wm_Wp 0 201 21 [.ref 89, .int x1, .int x2, .int x3, .null, .null] μ Q := wm_vc mo_201 (rt := some .int) (by decide +kernel) mc_201 116 h
-- WindBoatModel.blows(III)I, the place 64
set_option maxRecDepth 100000 in
set_option maxHeartbeats 8000000 in
theorem f_201_64 (x4 : Int32) (x5 : Int32) (μ : wm_M) (Q : Option Value → wm_M → Prop) (h : wm_OkI 0 198 [.ref 89, .int x4, .int x5] μ (fun r2 μ1 => Q (some (.int r2)) μ1)) : wm_Wp 0 201 64 [.ref 89, .null, .null, .null, .int x4, .int x5] μ Q := wm_vc mo_201 (rt := some .int) (by decide +kernel) mc_201 116 h
-- WindBoatModel.blows(III)I, the place 73
set_option maxRecDepth 100000 in
set_option maxHeartbeats 8000000 in
theorem f_201_73 (x4 : Int32) (x5 : Int32) (μ : wm_M) (Q : Option Value → wm_M → Prop) (h : wm_OkI 0 199 [.ref 89, .int x4, .int x5] μ (fun r2 μ1 => Q (some (.int r2)) μ1)) : wm_Wp 0 201 73 [.ref 89, .null, .null, .null, .int x4, .int x5] μ Q := wm_vc mo_201 (rt := some .int) (by decide +kernel) mc_201 116 h
-- WindBoatModel.blows(III)I, the place 82
set_option maxRecDepth 100000 in
set_option maxHeartbeats 8000000 in
theorem f_201_82 (x2 : Int32) (x4 : Int32) (x5 : Int32) (μ : wm_M) (Q : Option Value → wm_M → Prop) (h : wm_OkI 0 200 [.ref 89, .int x4, .int x5, .int x2] μ (fun r2 μ1 => Q (some (.int r2)) μ1)) : wm_Wp 0 201 82 [.ref 89, .null, .int x2, .null, .int x4, .int x5] μ Q := wm_vc mo_201 (rt := some .int) (by decide +kernel) mc_201 116 h
-- WindBoatModel.blows(III)I, the place 92
set_option maxRecDepth 100000 in
set_option maxHeartbeats 8000000 in
theorem f_201_92 (x1 : Int32) (μ : wm_M) (Q : Option Value → wm_M → Prop) (h : wm_OkI 0 195 [.int x1] μ (fun r2 μ1 => (vp_in ((240 : Int32) + r2) 2060 ∧ Q (some (.int (μ1.1 91 (((240 : Int32) + r2)).toNatClampNeg))) μ1))) : wm_Wp 0 201 92 [.ref 89, .int x1, .null, .null, .null, .null] μ Q := wm_vc mo_201 (rt := some .int) (by decide +kernel) mc_201 116 h
-- WindBoatModel.blows(III)I, the place 106
set_option maxRecDepth 100000 in
set_option maxHeartbeats 8000000 in
theorem f_201_106 (μ : wm_M) (Q : Option Value → wm_M → Prop) (h : wm_OkI 0 185 [.ref 89, .int (-7 : Int32)] μ (fun r2 μ1 => Q (some (.int r2)) μ1)) : wm_Wp 0 201 106 [.ref 89, .null, .null, .null, .null, .null] μ Q := wm_vc mo_201 (rt := some .int) (by decide +kernel) mc_201 116 h
-- WindBoatModel.mark(I)I
set_option maxRecDepth 100000 in
set_option maxHeartbeats 8000000 in
theorem f_202 (a1 : Int32) (μ : wm_M) (Q : Option Value → wm_M → Prop) (h : wm_OkI 0 189 [.int a1] μ (fun r2 μ1 => ((r2 = (0 : Int32) → wm_Wp 0 202 7 [.ref 89, .null, .null] μ1 Q) ∧ (¬ r2 = (0 : Int32) → wm_Wp 0 202 14 [.ref 89, .int a1, .null] μ1 Q)))) : wm_Ok 0 202 [.ref 89, .int a1] μ Q := wm_ent (nL := 3) (l := [.ref 89, .int a1, .null]) (by decide +kernel) (by decide +kernel) (by decide +kernel) rfl rfl (wm_vc mo_202 (rt := some .int) (by decide +kernel) mc_202 56 h)
-- WindBoatModel.mark(I)I, the place 7
set_option maxRecDepth 100000 in
set_option maxHeartbeats 8000000 in
theorem f_202_7 (μ : wm_M) (Q : Option Value → wm_M → Prop) (h : wm_OkI 0 185 [.ref 89, .int (-3 : Int32)] μ (fun r2 μ1 => Q (some (.int r2)) μ1)) : wm_Wp 0 202 7 [.ref 89, .null, .null] μ Q := wm_vc mo_202 (rt := some .int) (by decide +kernel) mc_202 56 h
-- WindBoatModel.mark(I)I, the place 14
set_option maxRecDepth 100000 in
set_option maxHeartbeats 8000000 in
theorem f_202_14 (x1 : Int32) (μ : wm_M) (Q : Option Value → wm_M → Prop) (h : wm_OkI 0 188 [.ref 89, .int (5 : Int32)] μ (fun r2 μ1 => wm_Wp 0 202 20 [.ref 89, .int x1, .int r2] μ1 Q)) : wm_Wp 0 202 14 [.ref 89, .int x1, .null] μ Q := wm_vc mo_202 (rt := some .int) (by decide +kernel) mc_202 56 h
-- WindBoatModel.mark(I)I, the place 20
set_option maxRecDepth 100000 in
set_option maxHeartbeats 8000000 in
theorem f_202_20 (x1 : Int32) (x2 : Int32) (μ : wm_M) (Q : Option Value → wm_M → Prop) (h : (vp_in (2045 : Int32) 2060 ∧ wm_Wp 0 202 29 [.null, .null, .int x2] (wm_si μ 91 ((2045 : Int32)).toNatClampNeg x1) Q)) : wm_Wp 0 202 20 [.ref 89, .int x1, .int x2] μ Q := wm_vc mo_202 (rt := some .int) (by decide +kernel) mc_202 56 h
-- WindBoatModel.mark(I)I, the place 29
set_option maxRecDepth 100000 in
set_option maxHeartbeats 8000000 in
theorem f_202_29 (x2 : Int32) (μ : wm_M) (Q : Option Value → wm_M → Prop) (h : Q (some (.int x2)) μ) : wm_Wp 0 202 29 [.null, .null, .int x2] μ Q := wm_vc mo_202 (rt := some .int) (by decide +kernel) mc_202 56 h
-- WindBoatModel.isPlace(II)Z
set_option maxRecDepth 100000 in
set_option maxHeartbeats 8000000 in
theorem f_203 (a0 : Int32) (a1 : Int32) (μ : wm_M) (Q : Option Value → wm_M → Prop) (h : wm_OkI 0 184 [.int a0, .int (0 : Int32), .int (4 : Int32)] μ (fun r2 μ1 => ((r2 = (0 : Int32) → wm_Wp 0 203 22 [.null, .null] μ1 Q) ∧ (¬ r2 = (0 : Int32) → wm_Wp 0 203 9 [.null, .int a1] μ1 Q)))) : wm_Ok 0 203 [.int a0, .int a1] μ Q := wm_ent (nL := 2) (l := [.int a0, .int a1]) (by decide +kernel) (by decide +kernel) (by decide +kernel) rfl rfl (wm_vc mo_203 (rt := some .boolean) (by decide +kernel) mc_203 48 h)
-- WindBoatModel.isPlace(II)Z, the place 9
set_option maxRecDepth 100000 in
set_option maxHeartbeats 8000000 in
theorem f_203_9 (x1 : Int32) (μ : wm_M) (Q : Option Value → wm_M → Prop) (h : wm_OkI 0 184 [.int x1, .int (0 : Int32), .int (4 : Int32)] μ (fun r2 μ1 => ((r2 = (0 : Int32) → wm_Wp 0 203 22 [.null, .null] μ1 Q) ∧ (¬ r2 = (0 : Int32) → wm_Wp 0 203 18 [.null, .null] μ1 Q)))) : wm_Wp 0 203 9 [.null, .int x1] μ Q := wm_vc mo_203 (rt := some .boolean) (by decide +kernel) mc_203 48 h
-- WindBoatModel.isPlace(II)Z, the place 18
set_option maxRecDepth 100000 in
set_option maxHeartbeats 8000000 in
theorem f_203_18 (μ : wm_M) (Q : Option Value → wm_M → Prop) (h : (((1 : Int32) = 0 ∨ (1 : Int32) = 1) ∧ Q (some (.int (1 : Int32))) μ)) : wm_Wp 0 203 18 [.null, .null] μ Q := wm_vc mo_203 (rt := some .boolean) (by decide +kernel) mc_203 48 h
-- WindBoatModel.isPlace(II)Z, the place 22
set_option maxRecDepth 100000 in
set_option maxHeartbeats 8000000 in
theorem f_203_22 (μ : wm_M) (Q : Option Value → wm_M → Prop) (h : (((0 : Int32) = 0 ∨ (0 : Int32) = 1) ∧ Q (some (.int (0 : Int32))) μ)) : wm_Wp 0 203 22 [.null, .null] μ Q := wm_vc mo_203 (rt := some .boolean) (by decide +kernel) mc_203 48 h
-- WindBoatModel.speed(III)I
set_option maxRecDepth 100000 in
set_option maxHeartbeats 8000000 in
theorem f_204 (a1 : Int32) (a2 : Int32) (a3 : Int32) (μ : wm_M) (Q : Option Value → wm_M → Prop) (h : wm_OkI 0 203 [.int a1, .int a2] μ (fun r2 μ1 => ((r2 = (0 : Int32) → wm_Wp 0 204 8 [.ref 89, .null, .null, .null, .null] μ1 Q) ∧ (¬ r2 = (0 : Int32) → wm_Wp 0 204 15 [.ref 89, .int a1, .int a2, .int a3, .null] μ1 Q)))) : wm_Ok 0 204 [.ref 89, .int a1, .int a2, .int a3] μ Q := wm_ent (nL := 5) (l := [.ref 89, .int a1, .int a2, .int a3, .null]) (by decide +kernel) (by decide +kernel) (by decide +kernel) rfl rfl (wm_vc mo_204 (rt := some .int) (by decide +kernel) mc_204 102 h)
-- WindBoatModel.speed(III)I, the place 8
set_option maxRecDepth 100000 in
set_option maxHeartbeats 8000000 in
theorem f_204_8 (μ : wm_M) (Q : Option Value → wm_M → Prop) (h : wm_OkI 0 185 [.ref 89, .int (-3 : Int32)] μ (fun r2 μ1 => Q (some (.int r2)) μ1)) : wm_Wp 0 204 8 [.ref 89, .null, .null, .null, .null] μ Q := wm_vc mo_204 (rt := some .int) (by decide +kernel) mc_204 102 h
-- WindBoatModel.speed(III)I, the place 15
set_option maxRecDepth 100000 in
set_option maxHeartbeats 8000000 in
theorem f_204_15 (x1 : Int32) (x2 : Int32) (x3 : Int32) (μ : wm_M) (Q : Option Value → wm_M → Prop) (h : wm_OkI 0 184 [.int x3, .int (0 : Int32), .int (99 : Int32)] μ (fun r2 μ1 => ((r2 = (0 : Int32) → wm_Wp 0 204 25 [.ref 89, .null, .null, .null, .null] μ1 Q) ∧ (¬ r2 = (0 : Int32) → wm_Wp 0 204 32 [.ref 89, .int x1, .int x2, .int x3, .null] μ1 Q)))) : wm_Wp 0 204 15 [.ref 89, .int x1, .int x2, .int x3, .null] μ Q := wm_vc mo_204 (rt := some .int) (by decide +kernel) mc_204 102 h
-- WindBoatModel.speed(III)I, the place 25
set_option maxRecDepth 100000 in
set_option maxHeartbeats 8000000 in
theorem f_204_25 (μ : wm_M) (Q : Option Value → wm_M → Prop) (h : wm_OkI 0 185 [.ref 89, .int (-7 : Int32)] μ (fun r2 μ1 => Q (some (.int r2)) μ1)) : wm_Wp 0 204 25 [.ref 89, .null, .null, .null, .null] μ Q := wm_vc mo_204 (rt := some .int) (by decide +kernel) mc_204 102 h
-- WindBoatModel.speed(III)I, the place 32
set_option maxRecDepth 100000 in
set_option maxHeartbeats 8000000 in
theorem f_204_32 (x1 : Int32) (x2 : Int32) (x3 : Int32) (μ : wm_M) (Q : Option Value → wm_M → Prop) (h : (vp_in (((324 : Int32) + ((5 : Int32) * x1)) + x2) 2060 ∧ (vp_in (((324 : Int32) + ((5 : Int32) * x1)) + x2) 2060 ∧ wm_Wp 0 204 63 [.null, .null, .null, .null, .int (μ.1 91 ((((324 : Int32) + ((5 : Int32) * x1)) + x2)).toNatClampNeg)] (wm_si μ 91 ((((324 : Int32) + ((5 : Int32) * x1)) + x2)).toNatClampNeg x3) Q))) : wm_Wp 0 204 32 [.ref 89, .int x1, .int x2, .int x3, .null] μ Q := wm_vc mo_204 (rt := some .int) (by decide +kernel) mc_204 102 h
-- WindBoatModel.speed(III)I, the place 63
set_option maxRecDepth 100000 in
set_option maxHeartbeats 8000000 in
theorem f_204_63 (x4 : Int32) (μ : wm_M) (Q : Option Value → wm_M → Prop) (h : Q (some (.int x4)) μ) : wm_Wp 0 204 63 [.null, .null, .null, .null, .int x4] μ Q := wm_vc mo_204 (rt := some .int) (by decide +kernel) mc_204 102 h
-- WindBoatModel.learn(III)I
set_option maxRecDepth 100000 in
set_option maxHeartbeats 8000000 in
theorem f_205 (a1 : Int32) (a2 : Int32) (a3 : Int32) (μ : wm_M) (Q : Option Value → wm_M → Prop) (h : wm_OkI 0 203 [.int a1, .int a2] μ (fun r2 μ1 => ((r2 = (0 : Int32) → wm_Wp 0 205 8 [.ref 89, .null, .null, .null, .null] μ1 Q) ∧ (¬ r2 = (0 : Int32) → wm_Wp 0 205 15 [.ref 89, .int a1, .int a2, .int a3, .null] μ1 Q)))) : wm_Ok 0 205 [.ref 89, .int a1, .int a2, .int a3] μ Q := wm_ent (nL := 5) (l := [.ref 89, .int a1, .int a2, .int a3, .null]) (by decide +kernel) (by decide +kernel) (by decide +kernel) rfl rfl (wm_vc mo_205 (rt := some .int) (by decide +kernel) mc_205 260 h)
-- WindBoatModel.learn(III)I, the place 8
set_option maxRecDepth 100000 in
set_option maxHeartbeats 8000000 in
theorem f_205_8 (μ : wm_M) (Q : Option Value → wm_M → Prop) (h : wm_OkI 0 185 [.ref 89, .int (-3 : Int32)] μ (fun r2 μ1 => Q (some (.int r2)) μ1)) : wm_Wp 0 205 8 [.ref 89, .null, .null, .null, .null] μ Q := wm_vc mo_205 (rt := some .int) (by decide +kernel) mc_205 260 h
-- WindBoatModel.learn(III)I, the place 15
set_option maxRecDepth 100000 in
set_option maxHeartbeats 8000000 in
theorem f_205_15 (x1 : Int32) (x2 : Int32) (x3 : Int32) (μ : wm_M) (Q : Option Value → wm_M → Prop) (h : wm_OkI 0 184 [.int x3, .int (0 : Int32), .int (99 : Int32)] μ (fun r2 μ1 => ((r2 = (0 : Int32) → wm_Wp 0 205 25 [.ref 89, .null, .null, .null, .null] μ1 Q) ∧ (¬ r2 = (0 : Int32) → wm_Wp 0 205 32 [.ref 89, .int x1, .int x2, .int x3, .null] μ1 Q)))) : wm_Wp 0 205 15 [.ref 89, .int x1, .int x2, .int x3, .null] μ Q := wm_vc mo_205 (rt := some .int) (by decide +kernel) mc_205 260 h
-- WindBoatModel.learn(III)I, the place 25
set_option maxRecDepth 100000 in
set_option maxHeartbeats 8000000 in
theorem f_205_25 (μ : wm_M) (Q : Option Value → wm_M → Prop) (h : wm_OkI 0 185 [.ref 89, .int (-7 : Int32)] μ (fun r2 μ1 => Q (some (.int r2)) μ1)) : wm_Wp 0 205 25 [.ref 89, .null, .null, .null, .null] μ Q := wm_vc mo_205 (rt := some .int) (by decide +kernel) mc_205 260 h
-- WindBoatModel.learn(III)I, the place 32
set_option maxRecDepth 100000 in
set_option maxHeartbeats 8000000 in
theorem f_205_32 (x1 : Int32) (x2 : Int32) (x3 : Int32) (μ : wm_M) (Q : Option Value → wm_M → Prop) (h : (vp_in ((349 : Int32) + (((5 : Int32) * x1) + x2)) 2060 ∧ (((μ.1 91 (((349 : Int32) + (((5 : Int32) * x1) + x2))).toNatClampNeg) = (99 : Int32) → wm_Wp 0 205 55 [.ref 89, .null, .null, .null, .null] μ Q) ∧ (¬ (μ.1 91 (((349 : Int32) + (((5 : Int32) * x1) + x2))).toNatClampNeg) = (99 : Int32) → wm_Wp 0 205 62 [.ref 89, .null, .null, .int x3, .int (((5 : Int32) * x1) + x2)] μ Q)))) : wm_Wp 0 205 32 [.ref 89, .int x1, .int x2, .int x3, .null] μ Q := wm_vc mo_205 (rt := some .int) (by decide +kernel) mc_205 260 h
-- WindBoatModel.learn(III)I, the place 55
set_option maxRecDepth 100000 in
set_option maxHeartbeats 8000000 in
theorem f_205_55 (μ : wm_M) (Q : Option Value → wm_M → Prop) (h : wm_OkI 0 185 [.ref 89, .int (-8 : Int32)] μ (fun r2 μ1 => Q (some (.int r2)) μ1)) : wm_Wp 0 205 55 [.ref 89, .null, .null, .null, .null] μ Q := wm_vc mo_205 (rt := some .int) (by decide +kernel) mc_205 260 h
-- WindBoatModel.learn(III)I, the place 62
set_option maxRecDepth 100000 in
set_option maxHeartbeats 8000000 in
theorem f_205_62 (x3 : Int32) (x4 : Int32) (μ : wm_M) (Q : Option Value → wm_M → Prop) (h : (vp_in ((349 : Int32) + x4) 2060 ∧ (((μ.1 91 (((349 : Int32) + x4)).toNatClampNeg) = (0 : Int32) → (vp_in ((399 : Int32) + x4) 2060 ∧ wm_Wp 0 205 117 [.ref 89, .null, .null, .int x3, .int x4] (wm_si μ 91 (((399 : Int32) + x4)).toNatClampNeg x3) Q)) ∧ (¬ (μ.1 91 (((349 : Int32) + x4)).toNatClampNeg) = (0 : Int32) → (vp_in ((399 : Int32) + x4) 2060 ∧ (((μ.1 91 (((399 : Int32) + x4)).toNatClampNeg) ≤ x3 → (vp_in ((399 : Int32) + x4) 2060 ∧ (vp_in ((399 : Int32) + x4) 2060 ∧ wm_Wp 0 205 117 [.ref 89, .null, .null, .int x3, .int x4] (wm_si μ 91 (((399 : Int32) + x4)).toNatClampNeg (μ.1 91 (((399 : Int32) + x4)).toNatClampNeg)) Q))) ∧ (¬ (μ.1 91 (((399 : Int32) + x4)).toNatClampNeg) ≤ x3 → (vp_in ((399 : Int32) + x4) 2060 ∧ wm_Wp 0 205 117 [.ref 89, .null, .null, .int x3, .int x4] (wm_si μ 91 (((399 : Int32) + x4)).toNatClampNeg x3) Q)))))))) : wm_Wp 0 205 62 [.ref 89, .null, .null, .int x3, .int x4] μ Q := wm_vc mo_205 (rt := some .int) (by decide +kernel) mc_205 260 h
-- WindBoatModel.learn(III)I, the place 117
set_option maxRecDepth 100000 in
set_option maxHeartbeats 8000000 in
theorem f_205_117 (x3 : Int32) (x4 : Int32) (μ : wm_M) (Q : Option Value → wm_M → Prop) (h : (vp_in ((349 : Int32) + x4) 2060 ∧ (((μ.1 91 (((349 : Int32) + x4)).toNatClampNeg) = (0 : Int32) → (vp_in ((424 : Int32) + x4) 2060 ∧ wm_Wp 0 205 172 [.ref 89, .null, .null, .int x3, .int x4] (wm_si μ 91 (((424 : Int32) + x4)).toNatClampNeg x3) Q)) ∧ (¬ (μ.1 91 (((349 : Int32) + x4)).toNatClampNeg) = (0 : Int32) → (vp_in ((424 : Int32) + x4) 2060 ∧ ((x3 ≤ (μ.1 91 (((424 : Int32) + x4)).toNatClampNeg) → (vp_in ((424 : Int32) + x4) 2060 ∧ (vp_in ((424 : Int32) + x4) 2060 ∧ wm_Wp 0 205 172 [.ref 89, .null, .null, .int x3, .int x4] (wm_si μ 91 (((424 : Int32) + x4)).toNatClampNeg (μ.1 91 (((424 : Int32) + x4)).toNatClampNeg)) Q))) ∧ (¬ x3 ≤ (μ.1 91 (((424 : Int32) + x4)).toNatClampNeg) → (vp_in ((424 : Int32) + x4) 2060 ∧ wm_Wp 0 205 172 [.ref 89, .null, .null, .int x3, .int x4] (wm_si μ 91 (((424 : Int32) + x4)).toNatClampNeg x3) Q)))))))) : wm_Wp 0 205 117 [.ref 89, .null, .null, .int x3, .int x4] μ Q := wm_vc mo_205 (rt := some .int) (by decide +kernel) mc_205 260 h
-- WindBoatModel.learn(III)I, the place 172
set_option maxRecDepth 100000 in
set_option maxHeartbeats 8000000 in
theorem f_205_172 (x3 : Int32) (x4 : Int32) (μ : wm_M) (Q : Option Value → wm_M → Prop) (h : (vp_in ((349 : Int32) + x4) 2060 ∧ (vp_in ((349 : Int32) + x4) 2060 ∧ wm_Wp 0 205 187 [.ref 89, .null, .null, .int x3, .int x4] (wm_si μ 91 (((349 : Int32) + x4)).toNatClampNeg ((μ.1 91 (((349 : Int32) + x4)).toNatClampNeg) + (1 : Int32))) Q))) : wm_Wp 0 205 172 [.ref 89, .null, .null, .int x3, .int x4] μ Q := wm_vc mo_205 (rt := some .int) (by decide +kernel) mc_205 260 h
-- WindBoatModel.learn(III)I, the place 187
set_option maxRecDepth 100000 in
set_option maxHeartbeats 8000000 in
theorem f_205_187 (x3 : Int32) (x4 : Int32) (μ : wm_M) (Q : Option Value → wm_M → Prop) (h : (vp_in ((374 : Int32) + x4) 2060 ∧ (vp_in ((374 : Int32) + x4) 2060 ∧ wm_Wp 0 205 202 [.ref 89, .null, .null, .null, .int x4] (wm_si μ 91 (((374 : Int32) + x4)).toNatClampNeg ((μ.1 91 (((374 : Int32) + x4)).toNatClampNeg) + x3)) Q))) : wm_Wp 0 205 187 [.ref 89, .null, .null, .int x3, .int x4] μ Q := wm_vc mo_205 (rt := some .int) (by decide +kernel) mc_205 260 h
-- WindBoatModel.learn(III)I, the place 202
set_option maxRecDepth 100000 in
set_option maxHeartbeats 8000000 in
theorem f_205_202 (x4 : Int32) (μ : wm_M) (Q : Option Value → wm_M → Prop) (h : (vp_in ((349 : Int32) + x4) 2060 ∧ Q (some (.int (μ.1 91 (((349 : Int32) + x4)).toNatClampNeg))) μ)) : wm_Wp 0 205 202 [.ref 89, .null, .null, .null, .int x4] μ Q := wm_vc mo_205 (rt := some .int) (by decide +kernel) mc_205 260 h
