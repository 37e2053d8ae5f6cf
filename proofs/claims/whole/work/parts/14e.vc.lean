/-! ===== what each block of code asks (printed by wip/gen/genvc.py) ===== -/
-- WindBoat.sail(I)I
set_option maxRecDepth 100000 in
set_option maxHeartbeats 8000000 in
theorem f_123 (a1 : Int32) (μ : wm_M) (Q : Option Value → wm_M → Prop) (h : wm_OkI 0 178 [.int a1, .int (0 : Int32), .int (4 : Int32)] μ (fun r2 μ1 => ((r2 = (0 : Int32) → wm_Wp 0 123 9 [.ref 0, .null] μ1 Q) ∧ (¬ r2 = (0 : Int32) → wm_Wp 0 123 16 [.ref 0, .int a1] μ1 Q)))) : wm_Ok 0 123 [.ref 0, .int a1] μ Q := wm_ent (nL := 2) (l := [.ref 0, .int a1]) (by decide +kernel) (by decide +kernel) (by decide +kernel) rfl rfl (wm_vc mo_123 (rt := some .int) (by decide +kernel) mc_123 70 h)
-- WindBoat.sail(I)I, the place 9
set_option maxRecDepth 100000 in
set_option maxHeartbeats 8000000 in
theorem f_123_9 (μ : wm_M) (Q : Option Value → wm_M → Prop) (h : wm_OkI 0 161 [.ref 0, .int (-7 : Int32)] μ (fun r2 μ1 => Q (some (.int r2)) μ1)) : wm_Wp 0 123 9 [.ref 0, .null] μ Q := wm_vc mo_123 (rt := some .int) (by decide +kernel) mc_123 70 h
-- WindBoat.sail(I)I, the place 16
set_option maxRecDepth 100000 in
set_option maxHeartbeats 8000000 in
theorem f_123_16 (x1 : Int32) (μ : wm_M) (Q : Option Value → wm_M → Prop) (h : (((μ.1 13 10) < (3 : Int32) → wm_Wp 0 123 37 [.ref 0, .int x1] μ Q) ∧ (¬ (μ.1 13 10) < (3 : Int32) → wm_OkI 0 161 [.ref 0, .int (-8 : Int32)] μ (fun r2 μ1 => Q (some (.int r2)) μ1)))) : wm_Wp 0 123 16 [.ref 0, .int x1] μ Q := wm_vc mo_123 (rt := some .int) (by decide +kernel) mc_123 70 h
-- WindBoat.sail(I)I, the place 37
set_option maxRecDepth 100000 in
set_option maxHeartbeats 8000000 in
theorem f_123_37 (x1 : Int32) (μ : wm_M) (Q : Option Value → wm_M → Prop) (h : wm_OkR 0 163 [.ref 0] μ (fun μ1 => wm_OkI 0 5 [.ref 13, .int x1] μ1 (fun r3 μ2 => Q (some (.int r3)) μ2))) : wm_Wp 0 123 37 [.ref 0, .int x1] μ Q := wm_vc mo_123 (rt := some .int) (by decide +kernel) mc_123 70 h
-- WindBoat.pace(III)I
set_option maxRecDepth 100000 in
set_option maxHeartbeats 8000000 in
theorem f_124 (a1 : Int32) (a2 : Int32) (a3 : Int32) (μ : wm_M) (Q : Option Value → wm_M → Prop) (h : wm_OkI 0 165 [.ref 0, .int a1] μ (fun r2 μ1 => ((r2 = (0 : Int32) → wm_Wp 0 124 15 [.ref 0, .null, .null, .null] μ1 Q) ∧ (¬ r2 = (0 : Int32) → wm_Wp 0 124 8 [.ref 0, .int a1, .int a2, .int a3] μ1 Q)))) : wm_Ok 0 124 [.ref 0, .int a1, .int a2, .int a3] μ Q := wm_ent (nL := 4) (l := [.ref 0, .int a1, .int a2, .int a3]) (by decide +kernel) (by decide +kernel) (by decide +kernel) rfl rfl (wm_vc mo_124 (rt := some .int) (by decide +kernel) mc_124 76 h)
-- WindBoat.pace(III)I, the place 8
set_option maxRecDepth 100000 in
set_option maxHeartbeats 8000000 in
theorem f_124_8 (x1 : Int32) (x2 : Int32) (x3 : Int32) (μ : wm_M) (Q : Option Value → wm_M → Prop) (h : wm_OkI 0 172 [.int x2] μ (fun r2 μ1 => ((r2 = (0 : Int32) → wm_Wp 0 124 15 [.ref 0, .null, .null, .null] μ1 Q) ∧ (¬ r2 = (0 : Int32) → wm_Wp 0 124 22 [.ref 0, .int x1, .int x2, .int x3] μ1 Q)))) : wm_Wp 0 124 8 [.ref 0, .int x1, .int x2, .int x3] μ Q := wm_vc mo_124 (rt := some .int) (by decide +kernel) mc_124 76 h
-- WindBoat.pace(III)I, the place 15
set_option maxRecDepth 100000 in
set_option maxHeartbeats 8000000 in
theorem f_124_15 (μ : wm_M) (Q : Option Value → wm_M → Prop) (h : wm_OkI 0 161 [.ref 0, .int (-3 : Int32)] μ (fun r2 μ1 => Q (some (.int r2)) μ1)) : wm_Wp 0 124 15 [.ref 0, .null, .null, .null] μ Q := wm_vc mo_124 (rt := some .int) (by decide +kernel) mc_124 76 h
-- WindBoat.pace(III)I, the place 22
set_option maxRecDepth 100000 in
set_option maxHeartbeats 8000000 in
theorem f_124_22 (x1 : Int32) (x2 : Int32) (x3 : Int32) (μ : wm_M) (Q : Option Value → wm_M → Prop) (h : wm_OkI 0 174 [.int x3] μ (fun r2 μ1 => ((r2 = (0 : Int32) → wm_Wp 0 124 29 [.ref 0, .null, .null, .null] μ1 Q) ∧ (¬ r2 = (0 : Int32) → wm_Wp 0 124 36 [.ref 0, .int x1, .int x2, .int x3] μ1 Q)))) : wm_Wp 0 124 22 [.ref 0, .int x1, .int x2, .int x3] μ Q := wm_vc mo_124 (rt := some .int) (by decide +kernel) mc_124 76 h
-- WindBoat.pace(III)I, the place 29
set_option maxRecDepth 100000 in
set_option maxHeartbeats 8000000 in
theorem f_124_29 (μ : wm_M) (Q : Option Value → wm_M → Prop) (h : wm_OkI 0 161 [.ref 0, .int (-7 : Int32)] μ (fun r2 μ1 => Q (some (.int r2)) μ1)) : wm_Wp 0 124 29 [.ref 0, .null, .null, .null] μ Q := wm_vc mo_124 (rt := some .int) (by decide +kernel) mc_124 76 h
-- WindBoat.pace(III)I, the place 36
set_option maxRecDepth 100000 in
set_option maxHeartbeats 8000000 in
theorem f_124_36 (x1 : Int32) (x2 : Int32) (x3 : Int32) (μ : wm_M) (Q : Option Value → wm_M → Prop) (h : (vp_in x1 3 ∧ wm_OkI 0 9 [.int (μ.1 14 (x1).toNatClampNeg), .int x2, .int x3] μ (fun r2 μ1 => Q (some (.int r2)) μ1))) : wm_Wp 0 124 36 [.ref 0, .int x1, .int x2, .int x3] μ Q := wm_vc mo_124 (rt := some .int) (by decide +kernel) mc_124 76 h
-- WindBoat.sailOf(II)I
set_option maxRecDepth 100000 in
set_option maxHeartbeats 8000000 in
theorem f_125 (a1 : Int32) (a2 : Int32) (μ : wm_M) (Q : Option Value → wm_M → Prop) (h : wm_OkI 0 165 [.ref 0, .int a1] μ (fun r2 μ1 => ((r2 = (0 : Int32) → wm_Wp 0 125 8 [.ref 0, .null, .null] μ1 Q) ∧ (¬ r2 = (0 : Int32) → wm_Wp 0 125 15 [.ref 0, .int a1, .int a2] μ1 Q)))) : wm_Ok 0 125 [.ref 0, .int a1, .int a2] μ Q := wm_ent (nL := 3) (l := [.ref 0, .int a1, .int a2]) (by decide +kernel) (by decide +kernel) (by decide +kernel) rfl rfl (wm_vc mo_125 (rt := some .int) (by decide +kernel) mc_125 90 h)
-- WindBoat.sailOf(II)I, the place 8
set_option maxRecDepth 100000 in
set_option maxHeartbeats 8000000 in
theorem f_125_8 (μ : wm_M) (Q : Option Value → wm_M → Prop) (h : wm_OkI 0 161 [.ref 0, .int (-3 : Int32)] μ (fun r2 μ1 => Q (some (.int r2)) μ1)) : wm_Wp 0 125 8 [.ref 0, .null, .null] μ Q := wm_vc mo_125 (rt := some .int) (by decide +kernel) mc_125 90 h
-- WindBoat.sailOf(II)I, the place 15
set_option maxRecDepth 100000 in
set_option maxHeartbeats 8000000 in
theorem f_125_15 (x1 : Int32) (x2 : Int32) (μ : wm_M) (Q : Option Value → wm_M → Prop) (h : (((x2).toInt < 0 ∨ 2 < (x2).toInt → wm_Wp 0 125 85 [.ref 0, .null, .null] μ Q) ∧ (((x2).toInt = 0 → wm_Wp 0 125 44 [.ref 0, .int x1, .null] μ Q) ∧ (((x2).toInt = 1 → wm_Wp 0 125 57 [.ref 0, .int x1, .null] μ Q) ∧ (((x2).toInt = 2 → wm_Wp 0 125 69 [.ref 0, .int x1, .null] μ Q) ∧ True))))) : wm_Wp 0 125 15 [.ref 0, .int x1, .int x2] μ Q := wm_vc mo_125 (rt := some .int) (by decide +kernel) mc_125 90 h
-- WindBoat.sailOf(II)I, the place 44
set_option maxRecDepth 100000 in
set_option maxHeartbeats 8000000 in
theorem f_125_44 (x1 : Int32) (μ : wm_M) (Q : Option Value → wm_M → Prop) (h : (vp_in x1 3 ∧ Q (some (.int (μ.1 14 (x1).toNatClampNeg))) μ)) : wm_Wp 0 125 44 [.ref 0, .int x1, .null] μ Q := wm_vc mo_125 (rt := some .int) (by decide +kernel) mc_125 90 h
-- WindBoat.sailOf(II)I, the place 57
set_option maxRecDepth 100000 in
set_option maxHeartbeats 8000000 in
theorem f_125_57 (x1 : Int32) (μ : wm_M) (Q : Option Value → wm_M → Prop) (h : wm_OkI 0 6 [.ref 13, .int x1] μ (fun r2 μ1 => Q (some (.int r2)) μ1)) : wm_Wp 0 125 57 [.ref 0, .int x1, .null] μ Q := wm_vc mo_125 (rt := some .int) (by decide +kernel) mc_125 90 h
-- WindBoat.sailOf(II)I, the place 69
set_option maxRecDepth 100000 in
set_option maxHeartbeats 8000000 in
theorem f_125_69 (x1 : Int32) (μ : wm_M) (Q : Option Value → wm_M → Prop) (h : (vp_in x1 3 ∧ wm_OkI 0 177 [.int (μ.1 15 (x1).toNatClampNeg)] μ (fun r2 μ1 => Q (some (.int r2)) μ1))) : wm_Wp 0 125 69 [.ref 0, .int x1, .null] μ Q := wm_vc mo_125 (rt := some .int) (by decide +kernel) mc_125 90 h
-- WindBoat.sailOf(II)I, the place 85
set_option maxRecDepth 100000 in
set_option maxHeartbeats 8000000 in
theorem f_125_85 (μ : wm_M) (Q : Option Value → wm_M → Prop) (h : wm_OkI 0 161 [.ref 0, .int (-7 : Int32)] μ (fun r2 μ1 => Q (some (.int r2)) μ1)) : wm_Wp 0 125 85 [.ref 0, .null, .null] μ Q := wm_vc mo_125 (rt := some .int) (by decide +kernel) mc_125 90 h
-- WindBoat.taken(II)I
set_option maxRecDepth 100000 in
set_option maxHeartbeats 8000000 in
theorem f_126 (a1 : Int32) (a2 : Int32) (μ : wm_M) (Q : Option Value → wm_M → Prop) (h : wm_OkI 0 165 [.ref 0, .int a1] μ (fun r2 μ1 => ((r2 = (0 : Int32) → wm_Wp 0 126 8 [.ref 0, .null, .null] μ1 Q) ∧ (¬ r2 = (0 : Int32) → wm_Wp 0 126 15 [.ref 0, .int a1, .int a2] μ1 Q)))) : wm_Ok 0 126 [.ref 0, .int a1, .int a2] μ Q := wm_ent (nL := 3) (l := [.ref 0, .int a1, .int a2]) (by decide +kernel) (by decide +kernel) (by decide +kernel) rfl rfl (wm_vc mo_126 (rt := some .int) (by decide +kernel) mc_126 92 h)
-- WindBoat.taken(II)I, the place 8
set_option maxRecDepth 100000 in
set_option maxHeartbeats 8000000 in
theorem f_126_8 (μ : wm_M) (Q : Option Value → wm_M → Prop) (h : wm_OkI 0 161 [.ref 0, .int (-3 : Int32)] μ (fun r2 μ1 => Q (some (.int r2)) μ1)) : wm_Wp 0 126 8 [.ref 0, .null, .null] μ Q := wm_vc mo_126 (rt := some .int) (by decide +kernel) mc_126 92 h
-- WindBoat.taken(II)I, the place 15
set_option maxRecDepth 100000 in
set_option maxHeartbeats 8000000 in
theorem f_126_15 (x1 : Int32) (x2 : Int32) (μ : wm_M) (Q : Option Value → wm_M → Prop) (h : wm_OkI 0 178 [.int x2, .int (0 : Int32), .int (4 : Int32)] μ (fun r2 μ1 => ((r2 = (0 : Int32) → wm_Wp 0 126 24 [.ref 0, .null, .null] μ1 Q) ∧ (¬ r2 = (0 : Int32) → wm_Wp 0 126 31 [.ref 0, .int x1, .int x2] μ1 Q)))) : wm_Wp 0 126 15 [.ref 0, .int x1, .int x2] μ Q := wm_vc mo_126 (rt := some .int) (by decide +kernel) mc_126 92 h
-- WindBoat.taken(II)I, the place 24
set_option maxRecDepth 100000 in
set_option maxHeartbeats 8000000 in
theorem f_126_24 (μ : wm_M) (Q : Option Value → wm_M → Prop) (h : wm_OkI 0 161 [.ref 0, .int (-7 : Int32)] μ (fun r2 μ1 => Q (some (.int r2)) μ1)) : wm_Wp 0 126 24 [.ref 0, .null, .null] μ Q := wm_vc mo_126 (rt := some .int) (by decide +kernel) mc_126 92 h
-- WindBoat.taken(II)I, the place 31
set_option maxRecDepth 100000 in
set_option maxHeartbeats 8000000 in
theorem f_126_31 (x1 : Int32) (x2 : Int32) (μ : wm_M) (Q : Option Value → wm_M → Prop) (h : (vp_in x1 3 ∧ wm_OkI 0 8 [.int (μ.1 14 (x1).toNatClampNeg), .int x2] μ (fun r2 μ1 => ((r2 = (0 : Int32) → wm_Wp 0 126 50 [.ref 0, .null, .null] μ1 Q) ∧ (¬ r2 = (0 : Int32) → wm_Wp 0 126 57 [.ref 0, .int x1, .null] μ1 Q))))) : wm_Wp 0 126 31 [.ref 0, .int x1, .int x2] μ Q := wm_vc mo_126 (rt := some .int) (by decide +kernel) mc_126 92 h
-- WindBoat.taken(II)I, the place 50
set_option maxRecDepth 100000 in
set_option maxHeartbeats 8000000 in
theorem f_126_50 (μ : wm_M) (Q : Option Value → wm_M → Prop) (h : wm_OkI 0 161 [.ref 0, .int (-5 : Int32)] μ (fun r2 μ1 => Q (some (.int r2)) μ1)) : wm_Wp 0 126 50 [.ref 0, .null, .null] μ Q := wm_vc mo_126 (rt := some .int) (by decide +kernel) mc_126 92 h
-- WindBoat.taken(II)I, the place 57
set_option maxRecDepth 100000 in
set_option maxHeartbeats 8000000 in
theorem f_126_57 (x1 : Int32) (μ : wm_M) (Q : Option Value → wm_M → Prop) (h : wm_OkI 0 6 [.ref 13, .int x1] μ (fun r2 μ1 => Q (some (.int r2)) μ1)) : wm_Wp 0 126 57 [.ref 0, .int x1, .null] μ Q := wm_vc mo_126 (rt := some .int) (by decide +kernel) mc_126 92 h
-- WindBoat.hand()I
set_option maxRecDepth 100000 in
set_option maxHeartbeats 8000000 in
theorem f_127 (μ : wm_M) (Q : Option Value → wm_M → Prop) (h : (((μ.1 13 13) < (8 : Int32) → wm_Wp 0 127 22 [.ref 0] μ Q) ∧ (¬ (μ.1 13 13) < (8 : Int32) → wm_OkI 0 161 [.ref 0, .int (-8 : Int32)] μ (fun r2 μ1 => Q (some (.int r2)) μ1)))) : wm_Ok 0 127 [.ref 0] μ Q := wm_ent (nL := 1) (l := [.ref 0]) (by decide +kernel) (by decide +kernel) (by decide +kernel) rfl rfl (wm_vc mo_127 (rt := some .int) (by decide +kernel) mc_127 50 h)
-- WindBoat.hand()I, the place 22
set_option maxRecDepth 100000 in
set_option maxHeartbeats 8000000 in
theorem f_127_22 (μ : wm_M) (Q : Option Value → wm_M → Prop) (h : wm_OkR 0 163 [.ref 0] μ (fun μ1 => wm_OkI 0 10 [.ref 13] μ1 (fun r3 μ2 => Q (some (.int r3)) μ2))) : wm_Wp 0 127 22 [.ref 0] μ Q := wm_vc mo_127 (rt := some .int) (by decide +kernel) mc_127 50 h
-- WindBoat.sleep(II)I
set_option maxRecDepth 100000 in
set_option maxHeartbeats 8000000 in
theorem f_128 (a1 : Int32) (a2 : Int32) (μ : wm_M) (Q : Option Value → wm_M → Prop) (h : wm_OkI 0 178 [.int a1, .int (0 : Int32), .int ((μ.1 13 13) - (1 : Int32))] μ (fun r2 μ1 => ((r2 = (0 : Int32) → wm_Wp 0 128 20 [.ref 0, .null, .null, .null] μ1 Q) ∧ (¬ r2 = (0 : Int32) → wm_Wp 0 128 27 [.ref 0, .int a1, .int a2, .null] μ1 Q)))) : wm_Ok 0 128 [.ref 0, .int a1, .int a2] μ Q := wm_ent (nL := 4) (l := [.ref 0, .int a1, .int a2, .null]) (by decide +kernel) (by decide +kernel) (by decide +kernel) rfl rfl (wm_vc mo_128 (rt := some .int) (by decide +kernel) mc_128 98 h)
-- WindBoat.sleep(II)I, the place 20
set_option maxRecDepth 100000 in
set_option maxHeartbeats 8000000 in
theorem f_128_20 (μ : wm_M) (Q : Option Value → wm_M → Prop) (h : wm_OkI 0 161 [.ref 0, .int (-3 : Int32)] μ (fun r2 μ1 => Q (some (.int r2)) μ1)) : wm_Wp 0 128 20 [.ref 0, .null, .null, .null] μ Q := wm_vc mo_128 (rt := some .int) (by decide +kernel) mc_128 98 h
-- WindBoat.sleep(II)I, the place 27
set_option maxRecDepth 100000 in
set_option maxHeartbeats 8000000 in
theorem f_128_27 (x1 : Int32) (x2 : Int32) (μ : wm_M) (Q : Option Value → wm_M → Prop) (h : wm_OkI 0 176 [.int x2] μ (fun r2 μ1 => ((r2 = (0 : Int32) → wm_Wp 0 128 34 [.ref 0, .null, .null, .null] μ1 Q) ∧ (¬ r2 = (0 : Int32) → wm_Wp 0 128 41 [.ref 0, .int x1, .int x2, .null] μ1 Q)))) : wm_Wp 0 128 27 [.ref 0, .int x1, .int x2, .null] μ Q := wm_vc mo_128 (rt := some .int) (by decide +kernel) mc_128 98 h
-- WindBoat.sleep(II)I, the place 34
set_option maxRecDepth 100000 in
set_option maxHeartbeats 8000000 in
theorem f_128_34 (μ : wm_M) (Q : Option Value → wm_M → Prop) (h : wm_OkI 0 161 [.ref 0, .int (-7 : Int32)] μ (fun r2 μ1 => Q (some (.int r2)) μ1)) : wm_Wp 0 128 34 [.ref 0, .null, .null, .null] μ Q := wm_vc mo_128 (rt := some .int) (by decide +kernel) mc_128 98 h
-- WindBoat.sleep(II)I, the place 41
set_option maxRecDepth 100000 in
set_option maxHeartbeats 8000000 in
theorem f_128_41 (x1 : Int32) (x2 : Int32) (μ : wm_M) (Q : Option Value → wm_M → Prop) (h : wm_OkR 0 163 [.ref 0] μ (fun μ1 => wm_Wp 0 128 49 [.null, .int x1, .int x2, .ref 13] μ1 Q)) : wm_Wp 0 128 41 [.ref 0, .int x1, .int x2, .null] μ Q := wm_vc mo_128 (rt := some .int) (by decide +kernel) mc_128 98 h
-- WindBoat.sleep(II)I, the place 49
set_option maxRecDepth 100000 in
set_option maxHeartbeats 8000000 in
theorem f_128_49 (x1 : Int32) (x2 : Int32) (μ : wm_M) (Q : Option Value → wm_M → Prop) (h : ((x2 = (1 : Int32) → wm_OkV 0 11 [.ref 13, .int x1, .int (1 : Int32)] μ (fun μ1 => wm_Wp 0 128 64 [.null, .int x1, .null, .ref 13] μ1 Q)) ∧ (¬ x2 = (1 : Int32) → wm_OkV 0 11 [.ref 13, .int x1, .int (0 : Int32)] μ (fun μ2 => wm_Wp 0 128 64 [.null, .int x1, .null, .ref 13] μ2 Q)))) : wm_Wp 0 128 49 [.null, .int x1, .int x2, .ref 13] μ Q := wm_vc mo_128 (rt := some .int) (by decide +kernel) mc_128 98 h
-- WindBoat.sleep(II)I, the place 64
set_option maxRecDepth 100000 in
set_option maxHeartbeats 8000000 in
theorem f_128_64 (x1 : Int32) (μ : wm_M) (Q : Option Value → wm_M → Prop) (h : (vp_in x1 8 ∧ Q (some (.int (μ.1 16 (x1).toNatClampNeg))) μ)) : wm_Wp 0 128 64 [.null, .int x1, .null, .ref 13] μ Q := wm_vc mo_128 (rt := some .int) (by decide +kernel) mc_128 98 h
-- WindBoat.feed(II)I
set_option maxRecDepth 100000 in
set_option maxHeartbeats 8000000 in
theorem f_129 (a1 : Int32) (a2 : Int32) (μ : wm_M) (Q : Option Value → wm_M → Prop) (h : (((0 : Int32) ≤ a2 → wm_Wp 0 129 11 [.ref 0, .int a1, .int a2, .null] μ Q) ∧ (¬ (0 : Int32) ≤ a2 → wm_OkI 0 161 [.ref 0, .int (-4 : Int32)] μ (fun r2 μ1 => Q (some (.int r2)) μ1)))) : wm_Ok 0 129 [.ref 0, .int a1, .int a2] μ Q := wm_ent (nL := 4) (l := [.ref 0, .int a1, .int a2, .null]) (by decide +kernel) (by decide +kernel) (by decide +kernel) rfl rfl (wm_vc mo_129 (rt := some .int) (by decide +kernel) mc_129 112 h)
-- WindBoat.feed(II)I, the place 11
set_option maxRecDepth 100000 in
set_option maxHeartbeats 8000000 in
theorem f_129_11 (x1 : Int32) (x2 : Int32) (μ : wm_M) (Q : Option Value → wm_M → Prop) (h : ((x2 ≤ (4 : Int32) → wm_Wp 0 129 23 [.ref 0, .int x1, .int x2, .null] μ Q) ∧ (¬ x2 ≤ (4 : Int32) → wm_OkI 0 161 [.ref 0, .int (-7 : Int32)] μ (fun r2 μ1 => Q (some (.int r2)) μ1)))) : wm_Wp 0 129 11 [.ref 0, .int x1, .int x2, .null] μ Q := wm_vc mo_129 (rt := some .int) (by decide +kernel) mc_129 112 h
-- WindBoat.feed(II)I, the place 23
set_option maxRecDepth 100000 in
set_option maxHeartbeats 8000000 in
theorem f_129_23 (x1 : Int32) (x2 : Int32) (μ : wm_M) (Q : Option Value → wm_M → Prop) (h : ((((μ.1 59 1) + x2) ≤ (120 : Int32) → wm_Wp 0 129 44 [.ref 0, .int x1, .int x2, .null] μ Q) ∧ (¬ ((μ.1 59 1) + x2) ≤ (120 : Int32) → wm_OkI 0 161 [.ref 0, .int (-8 : Int32)] μ (fun r2 μ1 => Q (some (.int r2)) μ1)))) : wm_Wp 0 129 23 [.ref 0, .int x1, .int x2, .null] μ Q := wm_vc mo_129 (rt := some .int) (by decide +kernel) mc_129 112 h
-- WindBoat.feed(II)I, the place 44
set_option maxRecDepth 100000 in
set_option maxHeartbeats 8000000 in
theorem f_129_44 (x1 : Int32) (x2 : Int32) (μ : wm_M) (Q : Option Value → wm_M → Prop) (h : wm_Wp 0 129 48 [.ref 0, .int x1, .null, .int (x2 - (1 : Int32))] μ Q) : wm_Wp 0 129 44 [.ref 0, .int x1, .int x2, .null] μ Q := wm_vc mo_129 (rt := some .int) (by decide +kernel) mc_129 112 h
-- WindBoat.feed(II)I, the place 48
set_option maxRecDepth 100000 in
set_option maxHeartbeats 8000000 in
theorem f_129_48 (x1 : Int32) (x3 : Int32) (μ : wm_M) (Q : Option Value → wm_M → Prop) (h : ((x3 < (0 : Int32) → wm_Wp 0 129 75 [.ref 0, .null, .null, .null] μ Q) ∧ (¬ x3 < (0 : Int32) → wm_OkV 0 88 [.ref 59, .int (((x1).toUInt32 >>> ((((8 : Int32) * x3)).toUInt32 &&& Int32.toUInt32 31)).toInt32 &&& (255 : Int32))] μ (fun μ1 => wm_Wp 0 129 69 [.ref 0, .int x1, .null, .int x3] μ1 Q)))) : wm_Wp 0 129 48 [.ref 0, .int x1, .null, .int x3] μ Q := wm_vc mo_129 (rt := some .int) (by decide +kernel) mc_129 112 h
-- WindBoat.feed(II)I, the place 69
set_option maxRecDepth 100000 in
set_option maxHeartbeats 8000000 in
theorem f_129_69 (x1 : Int32) (x3 : Int32) (μ : wm_M) (Q : Option Value → wm_M → Prop) (h : wm_Wp 0 129 48 [.ref 0, .int x1, .null, .int (x3 + (-1 : Int32))] μ Q) : wm_Wp 0 129 69 [.ref 0, .int x1, .null, .int x3] μ Q := wm_vc mo_129 (rt := some .int) (by decide +kernel) mc_129 112 h
-- WindBoat.feed(II)I, the place 75
set_option maxRecDepth 100000 in
set_option maxHeartbeats 8000000 in
theorem f_129_75 (μ : wm_M) (Q : Option Value → wm_M → Prop) (h : Q (some (.int (μ.1 59 1))) μ) : wm_Wp 0 129 75 [.ref 0, .null, .null, .null] μ Q := wm_vc mo_129 (rt := some .int) (by decide +kernel) mc_129 112 h
-- WindBoat.wipe()I
set_option maxRecDepth 100000 in
set_option maxHeartbeats 8000000 in
theorem f_130 (μ : wm_M) (Q : Option Value → wm_M → Prop) (h : wm_Wp 0 130 16 [.null, .int (μ.1 59 1)] (wm_si μ 59 1 (0 : Int32)) Q) : wm_Ok 0 130 [.ref 0] μ Q := wm_ent (nL := 2) (l := [.ref 0, .null]) (by decide +kernel) (by decide +kernel) (by decide +kernel) rfl rfl (wm_vc mo_130 (rt := some .int) (by decide +kernel) mc_130 40 h)
-- WindBoat.wipe()I, the place 16
set_option maxRecDepth 100000 in
set_option maxHeartbeats 8000000 in
theorem f_130_16 (x1 : Int32) (μ : wm_M) (Q : Option Value → wm_M → Prop) (h : Q (some (.int x1)) μ) : wm_Wp 0 130 16 [.null, .int x1] μ Q := wm_vc mo_130 (rt := some .int) (by decide +kernel) mc_130 40 h
-- WindBoat.rule(II)I
set_option maxRecDepth 100000 in
set_option maxHeartbeats 8000000 in
theorem f_131 (a1 : Int32) (a2 : Int32) (μ : wm_M) (Q : Option Value → wm_M → Prop) (h : ((a1 < (0 : Int32) → wm_Wp 0 131 15 [.ref 0, .null, .null, .null, .null] μ Q) ∧ (¬ a1 < (0 : Int32) → (((12 : Int32) < a2 → wm_Wp 0 131 15 [.ref 0, .null, .null, .null, .null] μ Q) ∧ (¬ (12 : Int32) < a2 → ((a1 < a2 → wm_Wp 0 131 22 [.ref 0, .int a1, .int a2, .null, .null] μ Q) ∧ (¬ a1 < a2 → wm_Wp 0 131 15 [.ref 0, .null, .null, .null, .null] μ Q))))))) : wm_Ok 0 131 [.ref 0, .int a1, .int a2] μ Q := wm_ent (nL := 5) (l := [.ref 0, .int a1, .int a2, .null, .null]) (by decide +kernel) (by decide +kernel) (by decide +kernel) rfl rfl (wm_vc mo_131 (rt := some .int) (by decide +kernel) mc_131 116 h)
-- WindBoat.rule(II)I, the place 15
set_option maxRecDepth 100000 in
set_option maxHeartbeats 8000000 in
theorem f_131_15 (μ : wm_M) (Q : Option Value → wm_M → Prop) (h : wm_OkI 0 161 [.ref 0, .int (-7 : Int32)] μ (fun r2 μ1 => Q (some (.int r2)) μ1)) : wm_Wp 0 131 15 [.ref 0, .null, .null, .null, .null] μ Q := wm_vc mo_131 (rt := some .int) (by decide +kernel) mc_131 116 h
-- WindBoat.rule(II)I, the place 22
set_option maxRecDepth 100000 in
set_option maxHeartbeats 8000000 in
theorem f_131_22 (x1 : Int32) (x2 : Int32) (μ : wm_M) (Q : Option Value → wm_M → Prop) (h : (((μ.1 18 6) < (12 : Int32) → wm_Wp 0 131 44 [.ref 0, .int x1, .int x2, .null, .null] μ Q) ∧ (¬ (μ.1 18 6) < (12 : Int32) → wm_OkI 0 161 [.ref 0, .int (-8 : Int32)] μ (fun r2 μ1 => Q (some (.int r2)) μ1)))) : wm_Wp 0 131 22 [.ref 0, .int x1, .int x2, .null, .null] μ Q := wm_vc mo_131 (rt := some .int) (by decide +kernel) mc_131 116 h
-- WindBoat.rule(II)I, the place 44
set_option maxRecDepth 100000 in
set_option maxHeartbeats 8000000 in
theorem f_131_44 (x1 : Int32) (x2 : Int32) (μ : wm_M) (Q : Option Value → wm_M → Prop) (h : wm_OkI 0 89 [.ref 59] μ (fun r2 μ1 => wm_Wp 0 131 52 [.ref 0, .int x1, .int x2, .int r2, .null] μ1 Q)) : wm_Wp 0 131 44 [.ref 0, .int x1, .int x2, .null, .null] μ Q := wm_vc mo_131 (rt := some .int) (by decide +kernel) mc_131 116 h
-- WindBoat.rule(II)I, the place 52
set_option maxRecDepth 100000 in
set_option maxHeartbeats 8000000 in
theorem f_131_52 (x1 : Int32) (x2 : Int32) (x3 : Int32) (μ : wm_M) (Q : Option Value → wm_M → Prop) (h : ((x3 = (-1 : Int32) → wm_Wp 0 131 62 [.ref 0, .int x1, .int x2, .null, .null] μ Q) ∧ (¬ x3 = (-1 : Int32) → Q (some (.int ((-10 : Int32) - x3))) μ))) : wm_Wp 0 131 52 [.ref 0, .int x1, .int x2, .int x3, .null] μ Q := wm_vc mo_131 (rt := some .int) (by decide +kernel) mc_131 116 h
-- WindBoat.rule(II)I, the place 62
set_option maxRecDepth 100000 in
set_option maxHeartbeats 8000000 in
theorem f_131_62 (x1 : Int32) (x2 : Int32) (μ : wm_M) (Q : Option Value → wm_M → Prop) (h : wm_OkR 0 163 [.ref 0] μ (fun μ1 => wm_OkI 0 61 [.ref 18, .ref 59, .int x1, .int x2] μ1 (fun r3 μ2 => wm_Wp 0 131 80 [.ref 0, .null, .null, .null, .int r3] μ2 Q))) : wm_Wp 0 131 62 [.ref 0, .int x1, .int x2, .null, .null] μ Q := wm_vc mo_131 (rt := some .int) (by decide +kernel) mc_131 116 h
-- WindBoat.rule(II)I, the place 80
set_option maxRecDepth 100000 in
set_option maxHeartbeats 8000000 in
theorem f_131_80 (x4 : Int32) (μ : wm_M) (Q : Option Value → wm_M → Prop) (h : wm_Wp 0 131 88 [.null, .null, .null, .null, .int x4] (wm_si μ 59 1 (0 : Int32)) Q) : wm_Wp 0 131 80 [.ref 0, .null, .null, .null, .int x4] μ Q := wm_vc mo_131 (rt := some .int) (by decide +kernel) mc_131 116 h
-- WindBoat.rule(II)I, the place 88
set_option maxRecDepth 100000 in
set_option maxHeartbeats 8000000 in
theorem f_131_88 (x4 : Int32) (μ : wm_M) (Q : Option Value → wm_M → Prop) (h : Q (some (.int x4)) μ) : wm_Wp 0 131 88 [.null, .null, .null, .null, .int x4] μ Q := wm_vc mo_131 (rt := some .int) (by decide +kernel) mc_131 116 h
-- WindBoat.says(III)I
set_option maxRecDepth 100000 in
set_option maxHeartbeats 8000000 in
theorem f_132 (a1 : Int32) (a2 : Int32) (a3 : Int32) (μ : wm_M) (Q : Option Value → wm_M → Prop) (h : wm_OkI 0 166 [.ref 0, .int a1, .int a2, .int a3] μ (fun r2 μ1 => ((r2 = (0 : Int32) → wm_Wp 0 132 10 [.ref 0, .null, .null, .null] μ1 Q) ∧ (¬ r2 = (0 : Int32) → wm_Wp 0 132 17 [.ref 0, .int a1, .int a2, .int a3] μ1 Q)))) : wm_Ok 0 132 [.ref 0, .int a1, .int a2, .int a3] μ Q := wm_ent (nL := 4) (l := [.ref 0, .int a1, .int a2, .int a3]) (by decide +kernel) (by decide +kernel) (by decide +kernel) rfl rfl (wm_vc mo_132 (rt := some .int) (by decide +kernel) mc_132 82 h)
-- WindBoat.says(III)I, the place 10
set_option maxRecDepth 100000 in
set_option maxHeartbeats 8000000 in
theorem f_132_10 (μ : wm_M) (Q : Option Value → wm_M → Prop) (h : wm_OkI 0 162 [.ref 0, .int (-3 : Int32)] μ (fun r2 μ1 => Q (some (.int r2)) μ1)) : wm_Wp 0 132 10 [.ref 0, .null, .null, .null] μ Q := wm_vc mo_132 (rt := some .int) (by decide +kernel) mc_132 82 h
-- WindBoat.says(III)I, the place 17
set_option maxRecDepth 100000 in
set_option maxHeartbeats 8000000 in
theorem f_132_17 (x1 : Int32) (x2 : Int32) (x3 : Int32) (μ : wm_M) (Q : Option Value → wm_M → Prop) (h : (¬ (10 : Int32) = 0 ∧ (vp_in (x1 - x1 / (10 : Int32) * (10 : Int32)) 3 ∧ wm_OkV 0 47 [.ref 1, .int x2, .int (μ.1 14 ((x1 - x1 / (10 : Int32) * (10 : Int32))).toNatClampNeg), .int x3] μ (fun μ1 => wm_Wp 0 132 41 [.ref 0, .int x1, .null, .null] μ1 Q)))) : wm_Wp 0 132 17 [.ref 0, .int x1, .int x2, .int x3] μ Q := wm_vc mo_132 (rt := some .int) (by decide +kernel) mc_132 82 h
-- WindBoat.says(III)I, the place 41
set_option maxRecDepth 100000 in
set_option maxHeartbeats 8000000 in
theorem f_132_41 (x1 : Int32) (μ : wm_M) (Q : Option Value → wm_M → Prop) (h : (¬ (10 : Int32) = 0 ∧ wm_OkI 0 64 [.ref 18, .int (x1 / (10 : Int32))] μ (fun r2 μ1 => Q (some (.int r2)) μ1))) : wm_Wp 0 132 41 [.ref 0, .int x1, .null, .null] μ Q := wm_vc mo_132 (rt := some .int) (by decide +kernel) mc_132 82 h
-- WindBoat.why(III)I
set_option maxRecDepth 100000 in
set_option maxHeartbeats 8000000 in
theorem f_133 (a1 : Int32) (a2 : Int32) (a3 : Int32) (μ : wm_M) (Q : Option Value → wm_M → Prop) (h : wm_OkI 0 166 [.ref 0, .int a1, .int a2, .int a3] μ (fun r2 μ1 => ((r2 = (0 : Int32) → wm_Wp 0 133 10 [.ref 0, .null, .null, .null] μ1 Q) ∧ (¬ r2 = (0 : Int32) → wm_Wp 0 133 17 [.ref 0, .int a1, .int a2, .int a3] μ1 Q)))) : wm_Ok 0 133 [.ref 0, .int a1, .int a2, .int a3] μ Q := wm_ent (nL := 4) (l := [.ref 0, .int a1, .int a2, .int a3]) (by decide +kernel) (by decide +kernel) (by decide +kernel) rfl rfl (wm_vc mo_133 (rt := some .int) (by decide +kernel) mc_133 82 h)
-- WindBoat.why(III)I, the place 10
set_option maxRecDepth 100000 in
set_option maxHeartbeats 8000000 in
theorem f_133_10 (μ : wm_M) (Q : Option Value → wm_M → Prop) (h : wm_OkI 0 161 [.ref 0, .int (-3 : Int32)] μ (fun r2 μ1 => Q (some (.int r2)) μ1)) : wm_Wp 0 133 10 [.ref 0, .null, .null, .null] μ Q := wm_vc mo_133 (rt := some .int) (by decide +kernel) mc_133 82 h
-- WindBoat.why(III)I, the place 17
set_option maxRecDepth 100000 in
set_option maxHeartbeats 8000000 in
theorem f_133_17 (x1 : Int32) (x2 : Int32) (x3 : Int32) (μ : wm_M) (Q : Option Value → wm_M → Prop) (h : (¬ (10 : Int32) = 0 ∧ (vp_in (x1 - x1 / (10 : Int32) * (10 : Int32)) 3 ∧ wm_OkV 0 47 [.ref 1, .int x2, .int (μ.1 14 ((x1 - x1 / (10 : Int32) * (10 : Int32))).toNatClampNeg), .int x3] μ (fun μ1 => wm_Wp 0 133 41 [.ref 0, .int x1, .null, .null] μ1 Q)))) : wm_Wp 0 133 17 [.ref 0, .int x1, .int x2, .int x3] μ Q := wm_vc mo_133 (rt := some .int) (by decide +kernel) mc_133 82 h
-- WindBoat.why(III)I, the place 41
set_option maxRecDepth 100000 in
set_option maxHeartbeats 8000000 in
theorem f_133_41 (x1 : Int32) (μ : wm_M) (Q : Option Value → wm_M → Prop) (h : (¬ (10 : Int32) = 0 ∧ wm_OkI 0 63 [.ref 18, .int (x1 / (10 : Int32))] μ (fun r2 μ1 => Q (some (.int r2)) μ1))) : wm_Wp 0 133 41 [.ref 0, .int x1, .null, .null] μ Q := wm_vc mo_133 (rt := some .int) (by decide +kernel) mc_133 82 h
-- WindBoat.soonest(III)I
set_option maxRecDepth 100000 in
set_option maxHeartbeats 8000000 in
theorem f_134 (a1 : Int32) (a2 : Int32) (a3 : Int32) (μ : wm_M) (Q : Option Value → wm_M → Prop) (h : (((μ.1 13 0) = (0 : Int32) → wm_OkI 0 161 [.ref 0, .int (-2 : Int32)] μ (fun r2 μ1 => Q (some (.int r2)) μ1)) ∧ (¬ (μ.1 13 0) = (0 : Int32) → wm_Wp 0 134 20 [.ref 0, .int a1, .int a2, .int a3, .null] μ Q))) : wm_Ok 0 134 [.ref 0, .int a1, .int a2, .int a3] μ Q := wm_ent (nL := 5) (l := [.ref 0, .int a1, .int a2, .int a3, .null]) (by decide +kernel) (by decide +kernel) (by decide +kernel) rfl rfl (wm_vc mo_134 (rt := some .int) (by decide +kernel) mc_134 142 h)
-- WindBoat.soonest(III)I, the place 20
set_option maxRecDepth 100000 in
set_option maxHeartbeats 8000000 in
theorem f_134_20 (x1 : Int32) (x2 : Int32) (x3 : Int32) (μ : wm_M) (Q : Option Value → wm_M → Prop) (h : wm_OkI 0 169 [.int x1] μ (fun r2 μ1 => ((r2 = (0 : Int32) → wm_Wp 0 134 34 [.ref 0, .null, .null, .null, .null] μ1 Q) ∧ (¬ r2 = (0 : Int32) → wm_Wp 0 134 27 [.ref 0, .int x1, .int x2, .int x3, .null] μ1 Q)))) : wm_Wp 0 134 20 [.ref 0, .int x1, .int x2, .int x3, .null] μ Q := wm_vc mo_134 (rt := some .int) (by decide +kernel) mc_134 142 h
-- WindBoat.soonest(III)I, the place 27
set_option maxRecDepth 100000 in
set_option maxHeartbeats 8000000 in
theorem f_134_27 (x1 : Int32) (x2 : Int32) (x3 : Int32) (μ : wm_M) (Q : Option Value → wm_M → Prop) (h : wm_OkI 0 167 [.int x2] μ (fun r2 μ1 => ((r2 = (0 : Int32) → wm_Wp 0 134 34 [.ref 0, .null, .null, .null, .null] μ1 Q) ∧ (¬ r2 = (0 : Int32) → wm_Wp 0 134 41 [.ref 0, .int x1, .int x2, .int x3, .null] μ1 Q)))) : wm_Wp 0 134 27 [.ref 0, .int x1, .int x2, .int x3, .null] μ Q := wm_vc mo_134 (rt := some .int) (by decide +kernel) mc_134 142 h
-- WindBoat.soonest(III)I, the place 34
set_option maxRecDepth 100000 in
set_option maxHeartbeats 8000000 in
theorem f_134_34 (μ : wm_M) (Q : Option Value → wm_M → Prop) (h : wm_OkI 0 161 [.ref 0, .int (-3 : Int32)] μ (fun r2 μ1 => Q (some (.int r2)) μ1)) : wm_Wp 0 134 34 [.ref 0, .null, .null, .null, .null] μ Q := wm_vc mo_134 (rt := some .int) (by decide +kernel) mc_134 142 h
-- WindBoat.soonest(III)I, the place 41
set_option maxRecDepth 100000 in
set_option maxHeartbeats 8000000 in
theorem f_134_41 (x1 : Int32) (x2 : Int32) (x3 : Int32) (μ : wm_M) (Q : Option Value → wm_M → Prop) (h : wm_OkI 0 176 [.int x3] μ (fun r2 μ1 => ((r2 = (0 : Int32) → wm_Wp 0 134 48 [.ref 0, .null, .null, .null, .null] μ1 Q) ∧ (¬ r2 = (0 : Int32) → wm_Wp 0 134 55 [.ref 0, .int x1, .int x2, .int x3, .null] μ1 Q)))) : wm_Wp 0 134 41 [.ref 0, .int x1, .int x2, .int x3, .null] μ Q := wm_vc mo_134 (rt := some .int) (by decide +kernel) mc_134 142 h
-- WindBoat.soonest(III)I, the place 48
set_option maxRecDepth 100000 in
set_option maxHeartbeats 8000000 in
theorem f_134_48 (μ : wm_M) (Q : Option Value → wm_M → Prop) (h : wm_OkI 0 161 [.ref 0, .int (-7 : Int32)] μ (fun r2 μ1 => Q (some (.int r2)) μ1)) : wm_Wp 0 134 48 [.ref 0, .null, .null, .null, .null] μ Q := wm_vc mo_134 (rt := some .int) (by decide +kernel) mc_134 142 h
-- WindBoat.soonest(III)I, the place 55
set_option maxRecDepth 100000 in
set_option maxHeartbeats 8000000 in
theorem f_134_55 (x1 : Int32) (x2 : Int32) (x3 : Int32) (μ : wm_M) (Q : Option Value → wm_M → Prop) (h : wm_OkV 0 17 [.ref 62] μ (fun μ1 => wm_Wp 0 134 62 [.ref 0, .int x1, .int x2, .int x3, .null] μ1 Q)) : wm_Wp 0 134 55 [.ref 0, .int x1, .int x2, .int x3, .null] μ Q := wm_vc mo_134 (rt := some .int) (by decide +kernel) mc_134 142 h
-- WindBoat.soonest(III)I, the place 62
set_option maxRecDepth 100000 in
set_option maxHeartbeats 8000000 in
theorem f_134_62 (x1 : Int32) (x2 : Int32) (x3 : Int32) (μ : wm_M) (Q : Option Value → wm_M → Prop) (h : wm_OkV 0 19 [.ref 62, .int x1, .int x3] μ (fun μ1 => wm_Wp 0 134 71 [.ref 0, .null, .int x2, .null, .null] μ1 Q)) : wm_Wp 0 134 62 [.ref 0, .int x1, .int x2, .int x3, .null] μ Q := wm_vc mo_134 (rt := some .int) (by decide +kernel) mc_134 142 h
-- WindBoat.soonest(III)I, the place 71
set_option maxRecDepth 100000 in
set_option maxHeartbeats 8000000 in
theorem f_134_71 (x2 : Int32) (μ : wm_M) (Q : Option Value → wm_M → Prop) (h : wm_OkI 0 2 [.ref 13] μ (fun r2 μ1 => wm_OkI 0 49 [.ref 1] μ1 (fun r4 μ3 => wm_OkI 0 107 [.ref 69, .int r2, .int (μ1.1 13 4), .int r4, .int x2] μ3 (fun r6 μ5 => wm_Wp 0 134 108 [.ref 0, .null, .null, .null, .int r6] μ5 Q)))) : wm_Wp 0 134 71 [.ref 0, .null, .int x2, .null, .null] μ Q := wm_vc mo_134 (rt := some .int) (by decide +kernel) mc_134 142 h
-- WindBoat.soonest(III)I, the place 108
set_option maxRecDepth 100000 in
set_option maxHeartbeats 8000000 in
theorem f_134_108 (x4 : Int32) (μ : wm_M) (Q : Option Value → wm_M → Prop) (h : ((x4 = (-1 : Int32) → Q (some (.int (-1 : Int32))) μ) ∧ (¬ x4 = (-1 : Int32) → wm_Wp 0 134 118 [.ref 0, .null, .null, .null, .int x4] μ Q))) : wm_Wp 0 134 108 [.ref 0, .null, .null, .null, .int x4] μ Q := wm_vc mo_134 (rt := some .int) (by decide +kernel) mc_134 142 h
-- WindBoat.soonest(III)I, the place 118
set_option maxRecDepth 100000 in
set_option maxHeartbeats 8000000 in
theorem f_134_118 (x4 : Int32) (μ : wm_M) (Q : Option Value → wm_M → Prop) (h : (vp_in x4 864 ∧ Q (some (.int (μ.1 70 (x4).toNatClampNeg))) μ)) : wm_Wp 0 134 118 [.ref 0, .null, .null, .null, .int x4] μ Q := wm_vc mo_134 (rt := some .int) (by decide +kernel) mc_134 142 h
-- WindBoat.plan(III)I
set_option maxRecDepth 100000 in
set_option maxHeartbeats 8000000 in
theorem f_135 (a1 : Int32) (a2 : Int32) (a3 : Int32) (μ : wm_M) (Q : Option Value → wm_M → Prop) (h : (((μ.1 13 0) = (0 : Int32) → wm_OkI 0 161 [.ref 0, .int (-2 : Int32)] μ (fun r2 μ1 => Q (some (.int r2)) μ1)) ∧ (¬ (μ.1 13 0) = (0 : Int32) → wm_Wp 0 135 20 [.ref 0, .int a1, .int a2, .int a3, .null] μ Q))) : wm_Ok 0 135 [.ref 0, .int a1, .int a2, .int a3] μ Q := wm_ent (nL := 5) (l := [.ref 0, .int a1, .int a2, .int a3, .null]) (by decide +kernel) (by decide +kernel) (by decide +kernel) rfl rfl (wm_vc mo_135 (rt := some .int) (by decide +kernel) mc_135 152 h)
-- WindBoat.plan(III)I, the place 20
set_option maxRecDepth 100000 in
set_option maxHeartbeats 8000000 in
theorem f_135_20 (x1 : Int32) (x2 : Int32) (x3 : Int32) (μ : wm_M) (Q : Option Value → wm_M → Prop) (h : wm_OkI 0 169 [.int x1] μ (fun r2 μ1 => ((r2 = (0 : Int32) → wm_Wp 0 135 34 [.ref 0, .null, .null, .null, .null] μ1 Q) ∧ (¬ r2 = (0 : Int32) → wm_Wp 0 135 27 [.ref 0, .int x1, .int x2, .int x3, .null] μ1 Q)))) : wm_Wp 0 135 20 [.ref 0, .int x1, .int x2, .int x3, .null] μ Q := wm_vc mo_135 (rt := some .int) (by decide +kernel) mc_135 152 h
-- WindBoat.plan(III)I, the place 27
set_option maxRecDepth 100000 in
set_option maxHeartbeats 8000000 in
theorem f_135_27 (x1 : Int32) (x2 : Int32) (x3 : Int32) (μ : wm_M) (Q : Option Value → wm_M → Prop) (h : wm_OkI 0 167 [.int x2] μ (fun r2 μ1 => ((r2 = (0 : Int32) → wm_Wp 0 135 34 [.ref 0, .null, .null, .null, .null] μ1 Q) ∧ (¬ r2 = (0 : Int32) → wm_Wp 0 135 41 [.ref 0, .int x1, .int x2, .int x3, .null] μ1 Q)))) : wm_Wp 0 135 27 [.ref 0, .int x1, .int x2, .int x3, .null] μ Q := wm_vc mo_135 (rt := some .int) (by decide +kernel) mc_135 152 h
-- WindBoat.plan(III)I, the place 34
set_option maxRecDepth 100000 in
set_option maxHeartbeats 8000000 in
theorem f_135_34 (μ : wm_M) (Q : Option Value → wm_M → Prop) (h : wm_OkI 0 161 [.ref 0, .int (-3 : Int32)] μ (fun r2 μ1 => Q (some (.int r2)) μ1)) : wm_Wp 0 135 34 [.ref 0, .null, .null, .null, .null] μ Q := wm_vc mo_135 (rt := some .int) (by decide +kernel) mc_135 152 h
-- WindBoat.plan(III)I, the place 41
set_option maxRecDepth 100000 in
set_option maxHeartbeats 8000000 in
theorem f_135_41 (x1 : Int32) (x2 : Int32) (x3 : Int32) (μ : wm_M) (Q : Option Value → wm_M → Prop) (h : (((-1 : Int32) ≤ x3 → wm_Wp 0 135 53 [.ref 0, .int x1, .int x2, .int x3, .null] μ Q) ∧ (¬ (-1 : Int32) ≤ x3 → wm_OkI 0 161 [.ref 0, .int (-7 : Int32)] μ (fun r2 μ1 => Q (some (.int r2)) μ1)))) : wm_Wp 0 135 41 [.ref 0, .int x1, .int x2, .int x3, .null] μ Q := wm_vc mo_135 (rt := some .int) (by decide +kernel) mc_135 152 h
-- WindBoat.plan(III)I, the place 53
set_option maxRecDepth 100000 in
set_option maxHeartbeats 8000000 in
theorem f_135_53 (x1 : Int32) (x2 : Int32) (x3 : Int32) (μ : wm_M) (Q : Option Value → wm_M → Prop) (h : wm_OkV 0 17 [.ref 62] μ (fun μ1 => wm_Wp 0 135 60 [.ref 0, .int x1, .int x2, .int x3, .null] μ1 Q)) : wm_Wp 0 135 53 [.ref 0, .int x1, .int x2, .int x3, .null] μ Q := wm_vc mo_135 (rt := some .int) (by decide +kernel) mc_135 152 h
-- WindBoat.plan(III)I, the place 60
set_option maxRecDepth 100000 in
set_option maxHeartbeats 8000000 in
theorem f_135_60 (x1 : Int32) (x2 : Int32) (x3 : Int32) (μ : wm_M) (Q : Option Value → wm_M → Prop) (h : wm_OkV 0 19 [.ref 62, .int x1, .int (1 : Int32)] μ (fun μ1 => wm_Wp 0 135 69 [.ref 0, .null, .int x2, .int x3, .null] μ1 Q)) : wm_Wp 0 135 60 [.ref 0, .int x1, .int x2, .int x3, .null] μ Q := wm_vc mo_135 (rt := some .int) (by decide +kernel) mc_135 152 h
-- WindBoat.plan(III)I, the place 69
set_option maxRecDepth 100000 in
set_option maxHeartbeats 8000000 in
theorem f_135_69 (x2 : Int32) (x3 : Int32) (μ : wm_M) (Q : Option Value → wm_M → Prop) (h : wm_OkI 0 2 [.ref 13] μ (fun r2 μ1 => wm_OkI 0 49 [.ref 1] μ1 (fun r4 μ3 => wm_OkI 0 112 [.ref 69, .int r2, .int (μ1.1 13 4), .int r4, .int x2] μ3 (fun r6 μ5 => wm_Wp 0 135 106 [.ref 0, .null, .null, .int x3, .int r6] μ5 Q)))) : wm_Wp 0 135 69 [.ref 0, .null, .int x2, .int x3, .null] μ Q := wm_vc mo_135 (rt := some .int) (by decide +kernel) mc_135 152 h
-- WindBoat.plan(III)I, the place 106
set_option maxRecDepth 100000 in
set_option maxHeartbeats 8000000 in
theorem f_135_106 (x3 : Int32) (x4 : Int32) (μ : wm_M) (Q : Option Value → wm_M → Prop) (h : ((x3 = (-1 : Int32) → Q (some (.int x4)) μ) ∧ (¬ x3 = (-1 : Int32) → wm_Wp 0 135 114 [.ref 0, .null, .null, .int x3, .int x4] μ Q))) : wm_Wp 0 135 106 [.ref 0, .null, .null, .int x3, .int x4] μ Q := wm_vc mo_135 (rt := some .int) (by decide +kernel) mc_135 152 h
-- WindBoat.plan(III)I, the place 114
set_option maxRecDepth 100000 in
set_option maxHeartbeats 8000000 in
theorem f_135_114 (x3 : Int32) (x4 : Int32) (μ : wm_M) (Q : Option Value → wm_M → Prop) (h : ((x4 ≤ x3 → wm_Wp 0 135 132 [.null, .null, .null, .null, .null] μ Q) ∧ (¬ x4 ≤ x3 → (vp_in x3 121 ∧ Q (some (.int (μ.1 74 (x3).toNatClampNeg))) μ)))) : wm_Wp 0 135 114 [.ref 0, .null, .null, .int x3, .int x4] μ Q := wm_vc mo_135 (rt := some .int) (by decide +kernel) mc_135 152 h
-- WindBoat.plan(III)I, the place 132
set_option maxRecDepth 100000 in
set_option maxHeartbeats 8000000 in
theorem f_135_132 (μ : wm_M) (Q : Option Value → wm_M → Prop) (h : Q (some (.int (-1 : Int32))) μ) : wm_Wp 0 135 132 [.null, .null, .null, .null, .null] μ Q := wm_vc mo_135 (rt := some .int) (by decide +kernel) mc_135 152 h
-- WindBoat.telling(II)I
set_option maxRecDepth 100000 in
set_option maxHeartbeats 8000000 in
theorem f_136 (a1 : Int32) (a2 : Int32) (μ : wm_M) (Q : Option Value → wm_M → Prop) (h : wm_OkI 0 175 [.int a1] μ (fun r2 μ1 => ((r2 = (0 : Int32) → wm_Wp 0 136 19 [.ref 0, .null, .null, .null, .null] μ1 Q) ∧ (¬ r2 = (0 : Int32) → wm_Wp 0 136 7 [.ref 0, .int a1, .int a2, .null, .null] μ1 Q)))) : wm_Ok 0 136 [.ref 0, .int a1, .int a2] μ Q := wm_ent (nL := 5) (l := [.ref 0, .int a1, .int a2, .null, .null]) (by decide +kernel) (by decide +kernel) (by decide +kernel) rfl rfl (wm_vc mo_136 (rt := some .int) (by decide +kernel) mc_136 74 h)
-- WindBoat.telling(II)I, the place 7
set_option maxRecDepth 100000 in
set_option maxHeartbeats 8000000 in
theorem f_136_7 (x1 : Int32) (x2 : Int32) (μ : wm_M) (Q : Option Value → wm_M → Prop) (h : wm_OkI 0 175 [.int x2] μ (fun r2 μ1 => ((r2 = (0 : Int32) → wm_Wp 0 136 19 [.ref 0, .null, .null, .null, .null] μ1 Q) ∧ (¬ r2 = (0 : Int32) → wm_Wp 0 136 14 [.ref 0, .int x1, .int x2, .null, .null] μ1 Q)))) : wm_Wp 0 136 7 [.ref 0, .int x1, .int x2, .null, .null] μ Q := wm_vc mo_136 (rt := some .int) (by decide +kernel) mc_136 74 h
-- WindBoat.telling(II)I, the place 14
set_option maxRecDepth 100000 in
set_option maxHeartbeats 8000000 in
theorem f_136_14 (x1 : Int32) (x2 : Int32) (μ : wm_M) (Q : Option Value → wm_M → Prop) (h : ((x1 ≤ x2 → wm_Wp 0 136 26 [.ref 0, .int x1, .int x2, .null, .null] μ Q) ∧ (¬ x1 ≤ x2 → wm_Wp 0 136 19 [.ref 0, .null, .null, .null, .null] μ Q))) : wm_Wp 0 136 14 [.ref 0, .int x1, .int x2, .null, .null] μ Q := wm_vc mo_136 (rt := some .int) (by decide +kernel) mc_136 74 h
-- WindBoat.telling(II)I, the place 19
set_option maxRecDepth 100000 in
set_option maxHeartbeats 8000000 in
theorem f_136_19 (μ : wm_M) (Q : Option Value → wm_M → Prop) (h : wm_OkI 0 161 [.ref 0, .int (-7 : Int32)] μ (fun r2 μ1 => Q (some (.int r2)) μ1)) : wm_Wp 0 136 19 [.ref 0, .null, .null, .null, .null] μ Q := wm_vc mo_136 (rt := some .int) (by decide +kernel) mc_136 74 h
-- WindBoat.telling(II)I, the place 26
set_option maxRecDepth 100000 in
set_option maxHeartbeats 8000000 in
theorem f_136_26 (x1 : Int32) (x2 : Int32) (μ : wm_M) (Q : Option Value → wm_M → Prop) (h : wm_OkR 0 163 [.ref 0] μ (fun μ1 => wm_Wp 0 136 31 [.null, .int x1, .int x2, .ref 1, .null] μ1 Q)) : wm_Wp 0 136 26 [.ref 0, .int x1, .int x2, .null, .null] μ Q := wm_vc mo_136 (rt := some .int) (by decide +kernel) mc_136 74 h
-- WindBoat.telling(II)I, the place 31
set_option maxRecDepth 100000 in
set_option maxHeartbeats 8000000 in
theorem f_136_31 (x1 : Int32) (x2 : Int32) (μ : wm_M) (Q : Option Value → wm_M → Prop) (h : wm_Wp 0 136 42 [.null, .null, .int x2, .ref 1, .int (μ.1 1 4)] (wm_si μ 1 4 x1) Q) : wm_Wp 0 136 31 [.null, .int x1, .int x2, .ref 1, .null] μ Q := wm_vc mo_136 (rt := some .int) (by decide +kernel) mc_136 74 h
-- WindBoat.telling(II)I, the place 42
set_option maxRecDepth 100000 in
set_option maxHeartbeats 8000000 in
theorem f_136_42 (x2 : Int32) (x4 : Int32) (μ : wm_M) (Q : Option Value → wm_M → Prop) (h : wm_Wp 0 136 47 [.null, .null, .null, .null, .int x4] (wm_si μ 1 5 x2) Q) : wm_Wp 0 136 42 [.null, .null, .int x2, .ref 1, .int x4] μ Q := wm_vc mo_136 (rt := some .int) (by decide +kernel) mc_136 74 h
-- WindBoat.telling(II)I, the place 47
set_option maxRecDepth 100000 in
set_option maxHeartbeats 8000000 in
theorem f_136_47 (x4 : Int32) (μ : wm_M) (Q : Option Value → wm_M → Prop) (h : Q (some (.int x4)) μ) : wm_Wp 0 136 47 [.null, .null, .null, .null, .int x4] μ Q := wm_vc mo_136 (rt := some .int) (by decide +kernel) mc_136 74 h
-- WindBoat.choice(II)I
set_option maxRecDepth 100000 in
set_option maxHeartbeats 8000000 in
theorem f_137 (a1 : Int32) (a2 : Int32) (μ : wm_M) (Q : Option Value → wm_M → Prop) (h : wm_OkI 0 178 [.int a1, .int (0 : Int32), .int (2 : Int32)] μ (fun r2 μ1 => ((r2 = (0 : Int32) → wm_Wp 0 137 16 [.ref 0, .null, .null] μ1 Q) ∧ (¬ r2 = (0 : Int32) → wm_Wp 0 137 9 [.ref 0, .int a1, .int a2] μ1 Q)))) : wm_Ok 0 137 [.ref 0, .int a1, .int a2] μ Q := wm_ent (nL := 3) (l := [.ref 0, .int a1, .int a2]) (by decide +kernel) (by decide +kernel) (by decide +kernel) rfl rfl (wm_vc mo_137 (rt := some .int) (by decide +kernel) mc_137 58 h)
-- WindBoat.choice(II)I, the place 9
set_option maxRecDepth 100000 in
set_option maxHeartbeats 8000000 in
theorem f_137_9 (x1 : Int32) (x2 : Int32) (μ : wm_M) (Q : Option Value → wm_M → Prop) (h : wm_OkI 0 167 [.int x2] μ (fun r2 μ1 => ((r2 = (0 : Int32) → wm_Wp 0 137 16 [.ref 0, .null, .null] μ1 Q) ∧ (¬ r2 = (0 : Int32) → wm_Wp 0 137 23 [.ref 0, .int x1, .int x2] μ1 Q)))) : wm_Wp 0 137 9 [.ref 0, .int x1, .int x2] μ Q := wm_vc mo_137 (rt := some .int) (by decide +kernel) mc_137 58 h
-- WindBoat.choice(II)I, the place 16
set_option maxRecDepth 100000 in
set_option maxHeartbeats 8000000 in
theorem f_137_16 (μ : wm_M) (Q : Option Value → wm_M → Prop) (h : wm_OkI 0 161 [.ref 0, .int (-3 : Int32)] μ (fun r2 μ1 => Q (some (.int r2)) μ1)) : wm_Wp 0 137 16 [.ref 0, .null, .null] μ Q := wm_vc mo_137 (rt := some .int) (by decide +kernel) mc_137 58 h
-- WindBoat.choice(II)I, the place 23
set_option maxRecDepth 100000 in
set_option maxHeartbeats 8000000 in
theorem f_137_23 (x1 : Int32) (x2 : Int32) (μ : wm_M) (Q : Option Value → wm_M → Prop) (h : wm_OkR 0 163 [.ref 0] μ (fun μ1 => wm_OkI 0 179 [.ref 27, .int x1, .int x2] μ1 (fun r3 μ2 => Q (some (.int r3)) μ2))) : wm_Wp 0 137 23 [.ref 0, .int x1, .int x2] μ Q := wm_vc mo_137 (rt := some .int) (by decide +kernel) mc_137 58 h
-- WindBoat.group(II)I
set_option maxRecDepth 100000 in
set_option maxHeartbeats 8000000 in
theorem f_138 (a1 : Int32) (a2 : Int32) (μ : wm_M) (Q : Option Value → wm_M → Prop) (h : wm_OkI 0 170 [.int a1] μ (fun r2 μ1 => ((r2 = (0 : Int32) → wm_Wp 0 138 7 [.ref 0, .null, .null] μ1 Q) ∧ (¬ r2 = (0 : Int32) → wm_Wp 0 138 14 [.ref 0, .int a1, .int a2] μ1 Q)))) : wm_Ok 0 138 [.ref 0, .int a1, .int a2] μ Q := wm_ent (nL := 3) (l := [.ref 0, .int a1, .int a2]) (by decide +kernel) (by decide +kernel) (by decide +kernel) rfl rfl (wm_vc mo_138 (rt := some .int) (by decide +kernel) mc_138 66 h)
-- WindBoat.group(II)I, the place 7
set_option maxRecDepth 100000 in
set_option maxHeartbeats 8000000 in
theorem f_138_7 (μ : wm_M) (Q : Option Value → wm_M → Prop) (h : wm_OkI 0 161 [.ref 0, .int (-3 : Int32)] μ (fun r2 μ1 => Q (some (.int r2)) μ1)) : wm_Wp 0 138 7 [.ref 0, .null, .null] μ Q := wm_vc mo_138 (rt := some .int) (by decide +kernel) mc_138 66 h
-- WindBoat.group(II)I, the place 14
set_option maxRecDepth 100000 in
set_option maxHeartbeats 8000000 in
theorem f_138_14 (x1 : Int32) (x2 : Int32) (μ : wm_M) (Q : Option Value → wm_M → Prop) (h : wm_OkI 0 178 [.int x2, .int (0 : Int32), .int (2 : Int32)] μ (fun r2 μ1 => ((r2 = (0 : Int32) → wm_Wp 0 138 23 [.ref 0, .null, .null] μ1 Q) ∧ (¬ r2 = (0 : Int32) → wm_Wp 0 138 30 [.ref 0, .int x1, .int x2] μ1 Q)))) : wm_Wp 0 138 14 [.ref 0, .int x1, .int x2] μ Q := wm_vc mo_138 (rt := some .int) (by decide +kernel) mc_138 66 h
-- WindBoat.group(II)I, the place 23
set_option maxRecDepth 100000 in
set_option maxHeartbeats 8000000 in
theorem f_138_23 (μ : wm_M) (Q : Option Value → wm_M → Prop) (h : wm_OkI 0 161 [.ref 0, .int (-7 : Int32)] μ (fun r2 μ1 => Q (some (.int r2)) μ1)) : wm_Wp 0 138 23 [.ref 0, .null, .null] μ Q := wm_vc mo_138 (rt := some .int) (by decide +kernel) mc_138 66 h
-- WindBoat.group(II)I, the place 30
set_option maxRecDepth 100000 in
set_option maxHeartbeats 8000000 in
theorem f_138_30 (x1 : Int32) (x2 : Int32) (μ : wm_M) (Q : Option Value → wm_M → Prop) (h : wm_OkR 0 163 [.ref 0] μ (fun μ1 => wm_OkI 0 179 [.ref 28, .int x1, .int x2] μ1 (fun r3 μ2 => Q (some (.int r3)) μ2))) : wm_Wp 0 138 30 [.ref 0, .int x1, .int x2] μ Q := wm_vc mo_138 (rt := some .int) (by decide +kernel) mc_138 66 h
-- WindBoat.comes(II)I
set_option maxRecDepth 100000 in
set_option maxHeartbeats 8000000 in
theorem f_139 (a1 : Int32) (a2 : Int32) (μ : wm_M) (Q : Option Value → wm_M → Prop) (h : (((μ.1 13 0) = (0 : Int32) → wm_OkI 0 161 [.ref 0, .int (-2 : Int32)] μ (fun r2 μ1 => Q (some (.int r2)) μ1)) ∧ (¬ (μ.1 13 0) = (0 : Int32) → wm_Wp 0 139 20 [.ref 0, .int a1, .int a2, .null, .null] μ Q))) : wm_Ok 0 139 [.ref 0, .int a1, .int a2] μ Q := wm_ent (nL := 5) (l := [.ref 0, .int a1, .int a2, .null, .null]) (by decide +kernel) (by decide +kernel) (by decide +kernel) rfl rfl (wm_vc mo_139 (rt := some .int) (by decide +kernel) mc_139 110 h)
-- WindBoat.comes(II)I, the place 20
set_option maxRecDepth 100000 in
set_option maxHeartbeats 8000000 in
theorem f_139_20 (x1 : Int32) (x2 : Int32) (μ : wm_M) (Q : Option Value → wm_M → Prop) (h : (¬ (10 : Int32) = 0 ∧ (¬ (10 : Int32) = 0 ∧ ((x1 < (0 : Int32) → wm_Wp 0 139 53 [.ref 0, .null, .null, .null, .null] μ Q) ∧ (¬ x1 < (0 : Int32) → (((3 : Int32) ≤ (x1 / (10 : Int32)) → wm_Wp 0 139 53 [.ref 0, .null, .null, .null, .null] μ Q) ∧ (¬ (3 : Int32) ≤ (x1 / (10 : Int32)) → wm_Wp 0 139 40 [.ref 0, .null, .int x2, .int (x1 / (10 : Int32)), .int (x1 - x1 / (10 : Int32) * (10 : Int32))] μ Q))))))) : wm_Wp 0 139 20 [.ref 0, .int x1, .int x2, .null, .null] μ Q := wm_vc mo_139 (rt := some .int) (by decide +kernel) mc_139 110 h
-- WindBoat.comes(II)I, the place 40
set_option maxRecDepth 100000 in
set_option maxHeartbeats 8000000 in
theorem f_139_40 (x2 : Int32) (x3 : Int32) (x4 : Int32) (μ : wm_M) (Q : Option Value → wm_M → Prop) (h : (((3 : Int32) ≤ x4 → wm_Wp 0 139 53 [.ref 0, .null, .null, .null, .null] μ Q) ∧ (¬ (3 : Int32) ≤ x4 → wm_OkI 0 170 [.int x2] μ (fun r2 μ1 => ((r2 = (0 : Int32) → wm_Wp 0 139 53 [.ref 0, .null, .null, .null, .null] μ1 Q) ∧ (¬ r2 = (0 : Int32) → wm_Wp 0 139 60 [.ref 0, .null, .int x2, .int x3, .int x4] μ1 Q)))))) : wm_Wp 0 139 40 [.ref 0, .null, .int x2, .int x3, .int x4] μ Q := wm_vc mo_139 (rt := some .int) (by decide +kernel) mc_139 110 h
-- WindBoat.comes(II)I, the place 53
set_option maxRecDepth 100000 in
set_option maxHeartbeats 8000000 in
theorem f_139_53 (μ : wm_M) (Q : Option Value → wm_M → Prop) (h : wm_OkI 0 161 [.ref 0, .int (-3 : Int32)] μ (fun r2 μ1 => Q (some (.int r2)) μ1)) : wm_Wp 0 139 53 [.ref 0, .null, .null, .null, .null] μ Q := wm_vc mo_139 (rt := some .int) (by decide +kernel) mc_139 110 h
-- WindBoat.comes(II)I, the place 60
set_option maxRecDepth 100000 in
set_option maxHeartbeats 8000000 in
theorem f_139_60 (x2 : Int32) (x3 : Int32) (x4 : Int32) (μ : wm_M) (Q : Option Value → wm_M → Prop) (h : wm_OkV 0 17 [.ref 62] μ (fun μ1 => wm_Wp 0 139 67 [.ref 0, .null, .int x2, .int x3, .int x4] μ1 Q)) : wm_Wp 0 139 60 [.ref 0, .null, .int x2, .int x3, .int x4] μ Q := wm_vc mo_139 (rt := some .int) (by decide +kernel) mc_139 110 h
-- WindBoat.comes(II)I, the place 67
set_option maxRecDepth 100000 in
set_option maxHeartbeats 8000000 in
theorem f_139_67 (x2 : Int32) (x3 : Int32) (x4 : Int32) (μ : wm_M) (Q : Option Value → wm_M → Prop) (h : wm_OkI 0 49 [.ref 1] μ (fun r2 μ1 => wm_OkI 0 28 [.ref 75, .int x2, .int x3, .int x4, .int r2] μ1 (fun r4 μ3 => Q (some (.int r4)) μ3))) : wm_Wp 0 139 67 [.ref 0, .null, .int x2, .int x3, .int x4] μ Q := wm_vc mo_139 (rt := some .int) (by decide +kernel) mc_139 110 h
-- WindBoat.tree(II)J
set_option maxRecDepth 100000 in
set_option maxHeartbeats 8000000 in
theorem f_140 (a1 : Int32) (a2 : Int32) (μ : wm_M) (Q : Option Value → wm_M → Prop) (h : (((μ.1 13 0) = (0 : Int32) → wm_Wp 0 140 26 [.ref 0, .null, .null] μ Q) ∧ (¬ (μ.1 13 0) = (0 : Int32) → wm_OkI 0 78 [.ref 2] μ (fun r2 μ1 => ((r2 = (0 : Int32) → wm_Wp 0 140 26 [.ref 0, .null, .null] μ1 Q) ∧ (¬ r2 = (0 : Int32) → wm_Wp 0 140 34 [.ref 0, .int a1, .int a2] μ1 Q)))))) : wm_Ok 0 140 [.ref 0, .int a1, .int a2] μ Q := wm_ent (nL := 3) (l := [.ref 0, .int a1, .int a2]) (by decide +kernel) (by decide +kernel) (by decide +kernel) rfl rfl (wm_vc mo_140 (rt := some .long) (by decide +kernel) mc_140 156 h)
-- WindBoat.tree(II)J, the place 26
set_option maxRecDepth 100000 in
set_option maxHeartbeats 8000000 in
theorem f_140_26 (μ : wm_M) (Q : Option Value → wm_M → Prop) (h : wm_OkI 0 161 [.ref 0, .int (-2 : Int32)] μ (fun r2 μ1 => Q (some (.long (r2).toInt64)) μ1)) : wm_Wp 0 140 26 [.ref 0, .null, .null] μ Q := wm_vc mo_140 (rt := some .long) (by decide +kernel) mc_140 156 h
-- WindBoat.tree(II)J, the place 34
set_option maxRecDepth 100000 in
set_option maxHeartbeats 8000000 in
theorem f_140_34 (x1 : Int32) (x2 : Int32) (μ : wm_M) (Q : Option Value → wm_M → Prop) (h : wm_OkI 0 178 [.int x1, .int (0 : Int32), .int (2 : Int32)] μ (fun r2 μ1 => ((r2 = (0 : Int32) → wm_Wp 0 140 52 [.ref 0, .null, .null] μ1 Q) ∧ (¬ r2 = (0 : Int32) → wm_Wp 0 140 43 [.ref 0, .int x1, .int x2] μ1 Q)))) : wm_Wp 0 140 34 [.ref 0, .int x1, .int x2] μ Q := wm_vc mo_140 (rt := some .long) (by decide +kernel) mc_140 156 h
-- WindBoat.tree(II)J, the place 43
set_option maxRecDepth 100000 in
set_option maxHeartbeats 8000000 in
theorem f_140_43 (x1 : Int32) (x2 : Int32) (μ : wm_M) (Q : Option Value → wm_M → Prop) (h : wm_OkI 0 178 [.int x2, .int (0 : Int32), .int (5 : Int32)] μ (fun r2 μ1 => ((r2 = (0 : Int32) → wm_Wp 0 140 52 [.ref 0, .null, .null] μ1 Q) ∧ (¬ r2 = (0 : Int32) → wm_Wp 0 140 60 [.ref 0, .int x1, .int x2] μ1 Q)))) : wm_Wp 0 140 43 [.ref 0, .int x1, .int x2] μ Q := wm_vc mo_140 (rt := some .long) (by decide +kernel) mc_140 156 h
-- WindBoat.tree(II)J, the place 52
set_option maxRecDepth 100000 in
set_option maxHeartbeats 8000000 in
theorem f_140_52 (μ : wm_M) (Q : Option Value → wm_M → Prop) (h : wm_OkI 0 161 [.ref 0, .int (-7 : Int32)] μ (fun r2 μ1 => Q (some (.long (r2).toInt64)) μ1)) : wm_Wp 0 140 52 [.ref 0, .null, .null] μ Q := wm_vc mo_140 (rt := some .long) (by decide +kernel) mc_140 156 h
-- WindBoat.tree(II)J, the place 60
set_option maxRecDepth 100000 in
set_option maxHeartbeats 8000000 in
theorem f_140_60 (x1 : Int32) (x2 : Int32) (μ : wm_M) (Q : Option Value → wm_M → Prop) (h : wm_OkV 0 17 [.ref 62] μ (fun μ1 => wm_Wp 0 140 67 [.ref 0, .int x1, .int x2] μ1 Q)) : wm_Wp 0 140 60 [.ref 0, .int x1, .int x2] μ Q := wm_vc mo_140 (rt := some .long) (by decide +kernel) mc_140 156 h
-- WindBoat.tree(II)J, the place 67
set_option maxRecDepth 100000 in
set_option maxHeartbeats 8000000 in
theorem f_140_67 (x1 : Int32) (x2 : Int32) (μ : wm_M) (Q : Option Value → wm_M → Prop) (h : wm_OkI 0 49 [.ref 1] μ (fun r2 μ1 => wm_OkV 0 30 [.ref 75, .int r2] μ1 (fun μ3 => wm_Wp 0 140 81 [.ref 0, .int x1, .int x2] μ3 Q))) : wm_Wp 0 140 67 [.ref 0, .int x1, .int x2] μ Q := wm_vc mo_140 (rt := some .long) (by decide +kernel) mc_140 156 h
-- WindBoat.tree(II)J, the place 81
set_option maxRecDepth 100000 in
set_option maxHeartbeats 8000000 in
theorem f_140_81 (x1 : Int32) (x2 : Int32) (μ : wm_M) (Q : Option Value → wm_M → Prop) (h : wm_OkV 0 33 [.ref 75, .int x1, .int (0 : Int32)] μ (fun μ1 => wm_Wp 0 140 90 [.ref 0, .null, .int x2] μ1 Q)) : wm_Wp 0 140 81 [.ref 0, .int x1, .int x2] μ Q := wm_vc mo_140 (rt := some .long) (by decide +kernel) mc_140 156 h
-- WindBoat.tree(II)J, the place 90
set_option maxRecDepth 100000 in
set_option maxHeartbeats 8000000 in
theorem f_140_90 (x2 : Int32) (μ : wm_M) (Q : Option Value → wm_M → Prop) (h : (((∀ q ∈ (#[(0, 33), (1, 42), (5, 50)] : Array (Int × Int)).toList, ¬ (x2).toInt = q.1) → wm_Wp 0 140 149 [.ref 0, .null, .int x2] μ Q) ∧ (((x2).toInt = 0 → wm_Wp 0 140 124 [.ref 0, .null, .null] μ Q) ∧ (((x2).toInt = 1 → wm_Wp 0 140 133 [.ref 0, .null, .null] μ Q) ∧ (((x2).toInt = 5 → wm_Wp 0 140 141 [.ref 0, .null, .null] μ Q) ∧ True))))) : wm_Wp 0 140 90 [.ref 0, .null, .int x2] μ Q := wm_vc mo_140 (rt := some .long) (by decide +kernel) mc_140 156 h
-- WindBoat.tree(II)J, the place 124
set_option maxRecDepth 100000 in
set_option maxHeartbeats 8000000 in
theorem f_140_124 (μ : wm_M) (Q : Option Value → wm_M → Prop) (h : Q (some (.long ((μ.1 75 7)).toInt64)) μ) : wm_Wp 0 140 124 [.ref 0, .null, .null] μ Q := wm_vc mo_140 (rt := some .long) (by decide +kernel) mc_140 156 h
-- WindBoat.tree(II)J, the place 133
set_option maxRecDepth 100000 in
set_option maxHeartbeats 8000000 in
theorem f_140_133 (μ : wm_M) (Q : Option Value → wm_M → Prop) (h : Q (some (.long (μ.2 75 8))) μ) : wm_Wp 0 140 133 [.ref 0, .null, .null] μ Q := wm_vc mo_140 (rt := some .long) (by decide +kernel) mc_140 156 h
-- WindBoat.tree(II)J, the place 141
set_option maxRecDepth 100000 in
set_option maxHeartbeats 8000000 in
theorem f_140_141 (μ : wm_M) (Q : Option Value → wm_M → Prop) (h : wm_OkJ 0 36 [.ref 75] μ (fun r2 μ1 => Q (some (.long r2)) μ1)) : wm_Wp 0 140 141 [.ref 0, .null, .null] μ Q := wm_vc mo_140 (rt := some .long) (by decide +kernel) mc_140 156 h
-- WindBoat.tree(II)J, the place 149
set_option maxRecDepth 100000 in
set_option maxHeartbeats 8000000 in
theorem f_140_149 (x2 : Int32) (μ : wm_M) (Q : Option Value → wm_M → Prop) (h : (vp_in (x2 - (2 : Int32)) 3 ∧ Q (some (.long ((μ.1 79 ((x2 - (2 : Int32))).toNatClampNeg)).toInt64)) μ)) : wm_Wp 0 140 149 [.ref 0, .null, .int x2] μ Q := wm_vc mo_140 (rt := some .long) (by decide +kernel) mc_140 156 h
-- WindBoat.worth()J
set_option maxRecDepth 100000 in
set_option maxHeartbeats 8000000 in
theorem f_141 (μ : wm_M) (Q : Option Value → wm_M → Prop) (h : (((μ.1 13 0) = (0 : Int32) → wm_Wp 0 141 26 [.ref 0, .null, .null] μ Q) ∧ (¬ (μ.1 13 0) = (0 : Int32) → wm_OkI 0 78 [.ref 2] μ (fun r2 μ1 => ((r2 = (0 : Int32) → wm_Wp 0 141 26 [.ref 0, .null, .null] μ1 Q) ∧ (¬ r2 = (0 : Int32) → wm_Wp 0 141 34 [.ref 0, .null, .null] μ1 Q)))))) : wm_Ok 0 141 [.ref 0] μ Q := wm_ent (nL := 3) (l := [.ref 0, .null, .null]) (by decide +kernel) (by decide +kernel) (by decide +kernel) rfl rfl (wm_vc mo_141 (rt := some .long) (by decide +kernel) mc_141 108 h)
-- WindBoat.worth()J, the place 26
set_option maxRecDepth 100000 in
set_option maxHeartbeats 8000000 in
theorem f_141_26 (μ : wm_M) (Q : Option Value → wm_M → Prop) (h : wm_OkI 0 161 [.ref 0, .int (-2 : Int32)] μ (fun r2 μ1 => Q (some (.long (r2).toInt64)) μ1)) : wm_Wp 0 141 26 [.ref 0, .null, .null] μ Q := wm_vc mo_141 (rt := some .long) (by decide +kernel) mc_141 108 h
-- WindBoat.worth()J, the place 34
set_option maxRecDepth 100000 in
set_option maxHeartbeats 8000000 in
theorem f_141_34 (μ : wm_M) (Q : Option Value → wm_M → Prop) (h : wm_OkV 0 17 [.ref 62] μ (fun μ1 => wm_Wp 0 141 41 [.ref 0, .null, .null] μ1 Q)) : wm_Wp 0 141 34 [.ref 0, .null, .null] μ Q := wm_vc mo_141 (rt := some .long) (by decide +kernel) mc_141 108 h
-- WindBoat.worth()J, the place 41
set_option maxRecDepth 100000 in
set_option maxHeartbeats 8000000 in
theorem f_141_41 (μ : wm_M) (Q : Option Value → wm_M → Prop) (h : wm_OkI 0 49 [.ref 1] μ (fun r2 μ1 => wm_OkV 0 30 [.ref 75, .int r2] μ1 (fun μ3 => wm_Wp 0 141 55 [.ref 0, .null, .null] μ3 Q))) : wm_Wp 0 141 41 [.ref 0, .null, .null] μ Q := wm_vc mo_141 (rt := some .long) (by decide +kernel) mc_141 108 h
-- WindBoat.worth()J, the place 55
set_option maxRecDepth 100000 in
set_option maxHeartbeats 8000000 in
theorem f_141_55 (μ : wm_M) (Q : Option Value → wm_M → Prop) (h : wm_OkV 0 33 [.ref 75, .int (0 : Int32), .int (1 : Int32)] μ (fun μ1 => wm_Wp 0 141 64 [.ref 0, .null, .null] μ1 Q)) : wm_Wp 0 141 55 [.ref 0, .null, .null] μ Q := wm_vc mo_141 (rt := some .long) (by decide +kernel) mc_141 108 h
-- WindBoat.worth()J, the place 64
set_option maxRecDepth 100000 in
set_option maxHeartbeats 8000000 in
theorem f_141_64 (μ : wm_M) (Q : Option Value → wm_M → Prop) (h : wm_OkV 0 33 [.ref 75, .int (0 : Int32), .int (0 : Int32)] μ (fun μ1 => wm_Wp 0 141 81 [.ref 0, .long (μ.2 75 8), .null] μ1 Q)) : wm_Wp 0 141 64 [.ref 0, .null, .null] μ Q := wm_vc mo_141 (rt := some .long) (by decide +kernel) mc_141 108 h
-- WindBoat.worth()J, the place 81
set_option maxRecDepth 100000 in
set_option maxHeartbeats 8000000 in
theorem f_141_81 (x1 : Int64) (μ : wm_M) (Q : Option Value → wm_M → Prop) (h : Q (some (.long (x1 - (μ.2 75 8)))) μ) : wm_Wp 0 141 81 [.ref 0, .long x1, .null] μ Q := wm_vc mo_141 (rt := some .long) (by decide +kernel) mc_141 108 h
-- WindBoat.weight(I)I
set_option maxRecDepth 100000 in
set_option maxHeartbeats 8000000 in
theorem f_142 (a1 : Int32) (μ : wm_M) (Q : Option Value → wm_M → Prop) (h : wm_OkI 0 170 [.int a1] μ (fun r2 μ1 => ((r2 = (0 : Int32) → wm_Wp 0 142 21 [.ref 0, .null] μ1 Q) ∧ (¬ r2 = (0 : Int32) → wm_Wp 0 142 7 [.ref 0, .int a1] μ1 Q)))) : wm_Ok 0 142 [.ref 0, .int a1] μ Q := wm_ent (nL := 2) (l := [.ref 0, .int a1]) (by decide +kernel) (by decide +kernel) (by decide +kernel) rfl rfl (wm_vc mo_142 (rt := some .int) (by decide +kernel) mc_142 46 h)
-- WindBoat.weight(I)I, the place 7
set_option maxRecDepth 100000 in
set_option maxHeartbeats 8000000 in
theorem f_142_7 (x1 : Int32) (μ : wm_M) (Q : Option Value → wm_M → Prop) (h : wm_OkI 0 81 [.ref 2, .int x1] μ (fun r2 μ1 => Q (some (.int r2)) μ1)) : wm_Wp 0 142 7 [.ref 0, .int x1] μ Q := wm_vc mo_142 (rt := some .int) (by decide +kernel) mc_142 46 h
-- WindBoat.weight(I)I, the place 21
set_option maxRecDepth 100000 in
set_option maxHeartbeats 8000000 in
theorem f_142_21 (μ : wm_M) (Q : Option Value → wm_M → Prop) (h : wm_OkI 0 161 [.ref 0, .int (-3 : Int32)] μ (fun r2 μ1 => Q (some (.int r2)) μ1)) : wm_Wp 0 142 21 [.ref 0, .null] μ Q := wm_vc mo_142 (rt := some .int) (by decide +kernel) mc_142 46 h
-- WindBoat.rival(III)I
set_option maxRecDepth 100000 in
set_option maxHeartbeats 8000000 in
theorem f_143 (a1 : Int32) (a2 : Int32) (a3 : Int32) (μ : wm_M) (Q : Option Value → wm_M → Prop) (h : wm_OkI 0 178 [.int a1, .int (0 : Int32), .int (5 : Int32)] μ (fun r2 μ1 => ((r2 = (0 : Int32) → wm_Wp 0 143 16 [.ref 0, .null, .null, .null] μ1 Q) ∧ (¬ r2 = (0 : Int32) → wm_Wp 0 143 9 [.ref 0, .int a1, .int a2, .int a3] μ1 Q)))) : wm_Ok 0 143 [.ref 0, .int a1, .int a2, .int a3] μ Q := wm_ent (nL := 4) (l := [.ref 0, .int a1, .int a2, .int a3]) (by decide +kernel) (by decide +kernel) (by decide +kernel) rfl rfl (wm_vc mo_143 (rt := some .int) (by decide +kernel) mc_143 84 h)
-- WindBoat.rival(III)I, the place 9
set_option maxRecDepth 100000 in
set_option maxHeartbeats 8000000 in
theorem f_143_9 (x1 : Int32) (x2 : Int32) (x3 : Int32) (μ : wm_M) (Q : Option Value → wm_M → Prop) (h : wm_OkI 0 170 [.int x2] μ (fun r2 μ1 => ((r2 = (0 : Int32) → wm_Wp 0 143 16 [.ref 0, .null, .null, .null] μ1 Q) ∧ (¬ r2 = (0 : Int32) → wm_Wp 0 143 23 [.ref 0, .int x1, .int x2, .int x3] μ1 Q)))) : wm_Wp 0 143 9 [.ref 0, .int x1, .int x2, .int x3] μ Q := wm_vc mo_143 (rt := some .int) (by decide +kernel) mc_143 84 h
-- WindBoat.rival(III)I, the place 16
set_option maxRecDepth 100000 in
set_option maxHeartbeats 8000000 in
theorem f_143_16 (μ : wm_M) (Q : Option Value → wm_M → Prop) (h : wm_OkI 0 161 [.ref 0, .int (-3 : Int32)] μ (fun r2 μ1 => Q (some (.int r2)) μ1)) : wm_Wp 0 143 16 [.ref 0, .null, .null, .null] μ Q := wm_vc mo_143 (rt := some .int) (by decide +kernel) mc_143 84 h
-- WindBoat.rival(III)I, the place 23
set_option maxRecDepth 100000 in
set_option maxHeartbeats 8000000 in
theorem f_143_23 (x1 : Int32) (x2 : Int32) (x3 : Int32) (μ : wm_M) (Q : Option Value → wm_M → Prop) (h : wm_OkI 0 178 [.int x3, .int (0 : Int32), .int (999 : Int32)] μ (fun r2 μ1 => ((r2 = (0 : Int32) → wm_Wp 0 143 34 [.ref 0, .null, .null, .null] μ1 Q) ∧ (¬ r2 = (0 : Int32) → wm_Wp 0 143 41 [.ref 0, .int x1, .int x2, .int x3] μ1 Q)))) : wm_Wp 0 143 23 [.ref 0, .int x1, .int x2, .int x3] μ Q := wm_vc mo_143 (rt := some .int) (by decide +kernel) mc_143 84 h
-- WindBoat.rival(III)I, the place 34
set_option maxRecDepth 100000 in
set_option maxHeartbeats 8000000 in
theorem f_143_34 (μ : wm_M) (Q : Option Value → wm_M → Prop) (h : wm_OkI 0 161 [.ref 0, .int (-7 : Int32)] μ (fun r2 μ1 => Q (some (.int r2)) μ1)) : wm_Wp 0 143 34 [.ref 0, .null, .null, .null] μ Q := wm_vc mo_143 (rt := some .int) (by decide +kernel) mc_143 84 h
-- WindBoat.rival(III)I, the place 41
set_option maxRecDepth 100000 in
set_option maxHeartbeats 8000000 in
theorem f_143_41 (x1 : Int32) (x2 : Int32) (x3 : Int32) (μ : wm_M) (Q : Option Value → wm_M → Prop) (h : wm_OkR 0 163 [.ref 0] μ (fun μ1 => wm_OkI 0 179 [.ref 29, .int ((x2 * (6 : Int32)) + x1), .int x3] μ1 (fun r3 μ2 => Q (some (.int r3)) μ2))) : wm_Wp 0 143 41 [.ref 0, .int x1, .int x2, .int x3] μ Q := wm_vc mo_143 (rt := some .int) (by decide +kernel) mc_143 84 h
-- WindBoat.game()I
set_option maxRecDepth 100000 in
set_option maxHeartbeats 8000000 in
theorem f_144 (μ : wm_M) (Q : Option Value → wm_M → Prop) (h : (((μ.1 0 9) = (-1 : Int32) → wm_OkI 0 162 [.ref 0, .int (-2 : Int32)] μ (fun r2 μ1 => Q (some (.int r2)) μ1)) ∧ (¬ (μ.1 0 9) = (-1 : Int32) → wm_Wp 0 144 15 [.ref 0, .null] μ Q))) : wm_Ok 0 144 [.ref 0] μ Q := wm_ent (nL := 2) (l := [.ref 0, .null]) (by decide +kernel) (by decide +kernel) (by decide +kernel) rfl rfl (wm_vc mo_144 (rt := some .int) (by decide +kernel) mc_144 122 h)
-- WindBoat.game()I, the place 15
set_option maxRecDepth 100000 in
set_option maxHeartbeats 8000000 in
theorem f_144_15 (μ : wm_M) (Q : Option Value → wm_M → Prop) (h : (((μ.1 0 9) = (4 : Int32) → wm_Wp 0 144 39 [.ref 0, .null] μ Q) ∧ (¬ (μ.1 0 9) = (4 : Int32) → (((μ.1 0 9) = (9 : Int32) → wm_Wp 0 144 39 [.ref 0, .null] μ Q) ∧ (¬ (μ.1 0 9) = (9 : Int32) → wm_OkI 0 162 [.ref 0, .int (-5 : Int32)] μ (fun r2 μ1 => Q (some (.int r2)) μ1)))))) : wm_Wp 0 144 15 [.ref 0, .null] μ Q := wm_vc mo_144 (rt := some .int) (by decide +kernel) mc_144 122 h
-- WindBoat.game()I, the place 39
set_option maxRecDepth 100000 in
set_option maxHeartbeats 8000000 in
theorem f_144_39 (μ : wm_M) (Q : Option Value → wm_M → Prop) (h : wm_Wp 0 144 41 [.ref 0, .int (0 : Int32)] μ Q) : wm_Wp 0 144 39 [.ref 0, .null] μ Q := wm_vc mo_144 (rt := some .int) (by decide +kernel) mc_144 122 h
-- WindBoat.game()I, the place 41
set_option maxRecDepth 100000 in
set_option maxHeartbeats 8000000 in
theorem f_144_41 (x1 : Int32) (μ : wm_M) (Q : Option Value → wm_M → Prop) (h : (((μ.1 0 9) ≤ x1 → wm_Wp 0 144 80 [.ref 0, .null] μ Q) ∧ (¬ (μ.1 0 9) ≤ x1 → (vp_in x1 12 ∧ wm_OkI 0 178 [.int (μ.1 85 (x1).toNatClampNeg), .int (-999 : Int32), .int (999 : Int32)] μ (fun r2 μ1 => ((r2 = (0 : Int32) → wm_Wp 0 144 67 [.ref 0, .null] μ1 Q) ∧ (¬ r2 = (0 : Int32) → wm_Wp 0 144 74 [.ref 0, .int x1] μ1 Q))))))) : wm_Wp 0 144 41 [.ref 0, .int x1] μ Q := wm_vc mo_144 (rt := some .int) (by decide +kernel) mc_144 122 h
-- WindBoat.game()I, the place 67
set_option maxRecDepth 100000 in
set_option maxHeartbeats 8000000 in
theorem f_144_67 (μ : wm_M) (Q : Option Value → wm_M → Prop) (h : wm_OkI 0 162 [.ref 0, .int (-7 : Int32)] μ (fun r2 μ1 => Q (some (.int r2)) μ1)) : wm_Wp 0 144 67 [.ref 0, .null] μ Q := wm_vc mo_144 (rt := some .int) (by decide +kernel) mc_144 122 h
-- WindBoat.game()I, the place 74
set_option maxRecDepth 100000 in
set_option maxHeartbeats 8000000 in
theorem f_144_74 (x1 : Int32) (μ : wm_M) (Q : Option Value → wm_M → Prop) (h : wm_Wp 0 144 41 [.ref 0, .int (x1 + (1 : Int32))] μ Q) : wm_Wp 0 144 74 [.ref 0, .int x1] μ Q := wm_vc mo_144 (rt := some .int) (by decide +kernel) mc_144 122 h
-- WindBoat.game()I, the place 80
set_option maxRecDepth 100000 in
set_option maxHeartbeats 8000000 in
theorem f_144_80 (μ : wm_M) (Q : Option Value → wm_M → Prop) (h : (((μ.1 0 9) = (4 : Int32) → wm_OkI 0 38 [.ref 86, .int (2 : Int32)] μ (fun r2 μ1 => Q (some (.int r2)) μ1)) ∧ (¬ (μ.1 0 9) = (4 : Int32) → wm_OkI 0 38 [.ref 86, .int (3 : Int32)] μ (fun r4 μ3 => Q (some (.int r4)) μ3)))) : wm_Wp 0 144 80 [.ref 0, .null] μ Q := wm_vc mo_144 (rt := some .int) (by decide +kernel) mc_144 122 h
-- WindBoat.at(II)I
set_option maxRecDepth 100000 in
set_option maxHeartbeats 8000000 in
theorem f_145 (a1 : Int32) (a2 : Int32) (μ : wm_M) (Q : Option Value → wm_M → Prop) (h : (¬ (100 : Int32) = 0 ∧ (¬ (10 : Int32) = 0 ∧ (¬ (10 : Int32) = 0 ∧ (¬ (10 : Int32) = 0 ∧ wm_Wp 0 145 20 [.ref 0, .int a1, .int a2, .int (a1 / (100 : Int32)), .int ((a1 / (10 : Int32)) - (a1 / (10 : Int32)) / (10 : Int32) * (10 : Int32)), .int (a1 - a1 / (10 : Int32) * (10 : Int32))] μ Q))))) : wm_Ok 0 145 [.ref 0, .int a1, .int a2] μ Q := wm_ent (nL := 6) (l := [.ref 0, .int a1, .int a2, .null, .null, .null]) (by decide +kernel) (by decide +kernel) (by decide +kernel) rfl rfl (wm_vc mo_145 (rt := some .int) (by decide +kernel) mc_145 148 h)
-- WindBoat.at(II)I, the place 20
set_option maxRecDepth 100000 in
set_option maxHeartbeats 8000000 in
theorem f_145_20 (x1 : Int32) (x2 : Int32) (x3 : Int32) (x4 : Int32) (x5 : Int32) (μ : wm_M) (Q : Option Value → wm_M → Prop) (h : ((x1 < (0 : Int32) → wm_Wp 0 145 48 [.ref 0, .null, .null, .null, .null, .null] μ Q) ∧ (¬ x1 < (0 : Int32) → wm_OkI 0 167 [.int x3] μ (fun r2 μ1 => ((r2 = (0 : Int32) → wm_Wp 0 145 48 [.ref 0, .null, .null, .null, .null, .null] μ1 Q) ∧ (¬ r2 = (0 : Int32) → wm_Wp 0 145 31 [.ref 0, .null, .int x2, .int x3, .int x4, .int x5] μ1 Q)))))) : wm_Wp 0 145 20 [.ref 0, .int x1, .int x2, .int x3, .int x4, .int x5] μ Q := wm_vc mo_145 (rt := some .int) (by decide +kernel) mc_145 148 h
-- WindBoat.at(II)I, the place 31
set_option maxRecDepth 100000 in
set_option maxHeartbeats 8000000 in
theorem f_145_31 (x2 : Int32) (x3 : Int32) (x4 : Int32) (x5 : Int32) (μ : wm_M) (Q : Option Value → wm_M → Prop) (h : wm_OkI 0 168 [.int x4] μ (fun r2 μ1 => ((r2 = (0 : Int32) → wm_Wp 0 145 48 [.ref 0, .null, .null, .null, .null, .null] μ1 Q) ∧ (¬ r2 = (0 : Int32) → wm_Wp 0 145 39 [.ref 0, .null, .int x2, .int x3, .int x4, .int x5] μ1 Q)))) : wm_Wp 0 145 31 [.ref 0, .null, .int x2, .int x3, .int x4, .int x5] μ Q := wm_vc mo_145 (rt := some .int) (by decide +kernel) mc_145 148 h
-- WindBoat.at(II)I, the place 39
set_option maxRecDepth 100000 in
set_option maxHeartbeats 8000000 in
theorem f_145_39 (x2 : Int32) (x3 : Int32) (x4 : Int32) (x5 : Int32) (μ : wm_M) (Q : Option Value → wm_M → Prop) (h : wm_OkI 0 165 [.ref 0, .int x5] μ (fun r2 μ1 => ((r2 = (0 : Int32) → wm_Wp 0 145 48 [.ref 0, .null, .null, .null, .null, .null] μ1 Q) ∧ (¬ r2 = (0 : Int32) → wm_Wp 0 145 55 [.ref 0, .null, .int x2, .int x3, .int x4, .int x5] μ1 Q)))) : wm_Wp 0 145 39 [.ref 0, .null, .int x2, .int x3, .int x4, .int x5] μ Q := wm_vc mo_145 (rt := some .int) (by decide +kernel) mc_145 148 h
-- WindBoat.at(II)I, the place 48
set_option maxRecDepth 100000 in
set_option maxHeartbeats 8000000 in
theorem f_145_48 (μ : wm_M) (Q : Option Value → wm_M → Prop) (h : wm_OkI 0 161 [.ref 0, .int (-3 : Int32)] μ (fun r2 μ1 => Q (some (.int r2)) μ1)) : wm_Wp 0 145 48 [.ref 0, .null, .null, .null, .null, .null] μ Q := wm_vc mo_145 (rt := some .int) (by decide +kernel) mc_145 148 h
-- WindBoat.at(II)I, the place 55
set_option maxRecDepth 100000 in
set_option maxHeartbeats 8000000 in
theorem f_145_55 (x2 : Int32) (x3 : Int32) (x4 : Int32) (x5 : Int32) (μ : wm_M) (Q : Option Value → wm_M → Prop) (h : (vp_in x3 36 ∧ (((μ.1 3 (x3).toNatClampNeg) = (0 : Int32) → wm_Wp 0 145 77 [.ref 0, .null, .int x2, .int x3, .int x4, .int x5] μ Q) ∧ (¬ (μ.1 3 (x3).toNatClampNeg) = (0 : Int32) → wm_OkI 0 161 [.ref 0, .int (-5 : Int32)] μ (fun r2 μ1 => Q (some (.int r2)) μ1))))) : wm_Wp 0 145 55 [.ref 0, .null, .int x2, .int x3, .int x4, .int x5] μ Q := wm_vc mo_145 (rt := some .int) (by decide +kernel) mc_145 148 h
-- WindBoat.at(II)I, the place 77
set_option maxRecDepth 100000 in
set_option maxHeartbeats 8000000 in
theorem f_145_77 (x2 : Int32) (x3 : Int32) (x4 : Int32) (x5 : Int32) (μ : wm_M) (Q : Option Value → wm_M → Prop) (h : (vp_in x5 3 ∧ (((μ.1 15 (x5).toNatClampNeg) = (0 : Int32) → wm_OkI 0 175 [.int x2] μ (fun r2 μ1 => ((r2 = (0 : Int32) → wm_Wp 0 145 100 [.ref 0, .null, .null, .null, .null, .null] μ1 Q) ∧ (¬ r2 = (0 : Int32) → wm_Wp 0 145 107 [.ref 0, .null, .int x2, .int x3, .int x4, .int x5] μ1 Q)))) ∧ (¬ (μ.1 15 (x5).toNatClampNeg) = (0 : Int32) → wm_Wp 0 145 100 [.ref 0, .null, .null, .null, .null, .null] μ Q)))) : wm_Wp 0 145 77 [.ref 0, .null, .int x2, .int x3, .int x4, .int x5] μ Q := wm_vc mo_145 (rt := some .int) (by decide +kernel) mc_145 148 h
-- WindBoat.at(II)I, the place 100
set_option maxRecDepth 100000 in
set_option maxHeartbeats 8000000 in
theorem f_145_100 (μ : wm_M) (Q : Option Value → wm_M → Prop) (h : wm_OkI 0 161 [.ref 0, .int (-7 : Int32)] μ (fun r2 μ1 => Q (some (.int r2)) μ1)) : wm_Wp 0 145 100 [.ref 0, .null, .null, .null, .null, .null] μ Q := wm_vc mo_145 (rt := some .int) (by decide +kernel) mc_145 148 h
-- WindBoat.at(II)I, the place 107
set_option maxRecDepth 100000 in
set_option maxHeartbeats 8000000 in
theorem f_145_107 (x2 : Int32) (x3 : Int32) (x4 : Int32) (x5 : Int32) (μ : wm_M) (Q : Option Value → wm_M → Prop) (h : wm_OkR 0 163 [.ref 0] μ (fun μ1 => wm_OkI 0 3 [.ref 13, .int x3, .int x4, .int x5, .int x2] μ1 (fun r3 μ2 => Q (some (.int r3)) μ2))) : wm_Wp 0 145 107 [.ref 0, .null, .int x2, .int x3, .int x4, .int x5] μ Q := wm_vc mo_145 (rt := some .int) (by decide +kernel) mc_145 148 h
-- WindBoat.stay(I)I
set_option maxRecDepth 100000 in
set_option maxHeartbeats 8000000 in
theorem f_146 (a1 : Int32) (μ : wm_M) (Q : Option Value → wm_M → Prop) (h : (((μ.1 13 0) = (0 : Int32) → wm_OkI 0 161 [.ref 0, .int (-2 : Int32)] μ (fun r2 μ1 => Q (some (.int r2)) μ1)) ∧ (¬ (μ.1 13 0) = (0 : Int32) → wm_Wp 0 146 20 [.ref 0, .int a1] μ Q))) : wm_Ok 0 146 [.ref 0, .int a1] μ Q := wm_ent (nL := 2) (l := [.ref 0, .int a1]) (by decide +kernel) (by decide +kernel) (by decide +kernel) rfl rfl (wm_vc mo_146 (rt := some .int) (by decide +kernel) mc_146 110 h)
-- WindBoat.stay(I)I, the place 20
set_option maxRecDepth 100000 in
set_option maxHeartbeats 8000000 in
theorem f_146_20 (x1 : Int32) (μ : wm_M) (Q : Option Value → wm_M → Prop) (h : (((0 : Int32) ≤ x1 → wm_Wp 0 146 31 [.ref 0, .int x1] μ Q) ∧ (¬ (0 : Int32) ≤ x1 → wm_OkI 0 161 [.ref 0, .int (-4 : Int32)] μ (fun r2 μ1 => Q (some (.int r2)) μ1)))) : wm_Wp 0 146 20 [.ref 0, .int x1] μ Q := wm_vc mo_146 (rt := some .int) (by decide +kernel) mc_146 110 h
-- WindBoat.stay(I)I, the place 31
set_option maxRecDepth 100000 in
set_option maxHeartbeats 8000000 in
theorem f_146_31 (x1 : Int32) (μ : wm_M) (Q : Option Value → wm_M → Prop) (h : ((x1 = (0 : Int32) → wm_Wp 0 146 41 [.ref 0, .null] μ Q) ∧ (¬ x1 = (0 : Int32) → ((x1 ≤ (60 : Int32) → wm_Wp 0 146 48 [.ref 0, .int x1] μ Q) ∧ (¬ x1 ≤ (60 : Int32) → wm_Wp 0 146 41 [.ref 0, .null] μ Q))))) : wm_Wp 0 146 31 [.ref 0, .int x1] μ Q := wm_vc mo_146 (rt := some .int) (by decide +kernel) mc_146 110 h
-- WindBoat.stay(I)I, the place 41
set_option maxRecDepth 100000 in
set_option maxHeartbeats 8000000 in
theorem f_146_41 (μ : wm_M) (Q : Option Value → wm_M → Prop) (h : wm_OkI 0 161 [.ref 0, .int (-7 : Int32)] μ (fun r2 μ1 => Q (some (.int r2)) μ1)) : wm_Wp 0 146 41 [.ref 0, .null] μ Q := wm_vc mo_146 (rt := some .int) (by decide +kernel) mc_146 110 h
-- WindBoat.stay(I)I, the place 48
set_option maxRecDepth 100000 in
set_option maxHeartbeats 8000000 in
theorem f_146_48 (x1 : Int32) (μ : wm_M) (Q : Option Value → wm_M → Prop) (h : ((((μ.1 13 4) + x1) ≤ (120 : Int32) → wm_Wp 0 146 72 [.ref 0, .int x1] μ Q) ∧ (¬ ((μ.1 13 4) + x1) ≤ (120 : Int32) → wm_OkI 0 161 [.ref 0, .int (-8 : Int32)] μ (fun r2 μ1 => Q (some (.int r2)) μ1)))) : wm_Wp 0 146 48 [.ref 0, .int x1] μ Q := wm_vc mo_146 (rt := some .int) (by decide +kernel) mc_146 110 h
-- WindBoat.stay(I)I, the place 72
set_option maxRecDepth 100000 in
set_option maxHeartbeats 8000000 in
theorem f_146_72 (x1 : Int32) (μ : wm_M) (Q : Option Value → wm_M → Prop) (h : wm_OkR 0 163 [.ref 0] μ (fun μ1 => wm_OkV 0 52 [.ref 1, .int x1] μ1 (fun μ2 => wm_Wp 0 146 80 [.ref 0, .null] μ2 Q))) : wm_Wp 0 146 72 [.ref 0, .int x1] μ Q := wm_vc mo_146 (rt := some .int) (by decide +kernel) mc_146 110 h
-- WindBoat.stay(I)I, the place 80
set_option maxRecDepth 100000 in
set_option maxHeartbeats 8000000 in
theorem f_146_80 (μ : wm_M) (Q : Option Value → wm_M → Prop) (h : Q (some (.int (μ.1 13 4))) μ) : wm_Wp 0 146 80 [.ref 0, .null] μ Q := wm_vc mo_146 (rt := some .int) (by decide +kernel) mc_146 110 h
-- WindBoat.go(I)I
set_option maxRecDepth 100000 in
set_option maxHeartbeats 8000000 in
theorem f_147 (a1 : Int32) (μ : wm_M) (Q : Option Value → wm_M → Prop) (h : (((μ.1 13 0) = (0 : Int32) → wm_OkI 0 161 [.ref 0, .int (-2 : Int32)] μ (fun r2 μ1 => Q (some (.int r2)) μ1)) ∧ (¬ (μ.1 13 0) = (0 : Int32) → wm_Wp 0 147 20 [.ref 0, .int a1, .null, .null] μ Q))) : wm_Ok 0 147 [.ref 0, .int a1] μ Q := wm_ent (nL := 4) (l := [.ref 0, .int a1, .null, .null]) (by decide +kernel) (by decide +kernel) (by decide +kernel) rfl rfl (wm_vc mo_147 (rt := some .int) (by decide +kernel) mc_147 140 h)
-- WindBoat.go(I)I, the place 20
set_option maxRecDepth 100000 in
set_option maxHeartbeats 8000000 in
theorem f_147_20 (x1 : Int32) (μ : wm_M) (Q : Option Value → wm_M → Prop) (h : wm_OkI 0 168 [.int x1] μ (fun r2 μ1 => ((r2 = (0 : Int32) → wm_Wp 0 147 27 [.ref 0, .null, .null, .null] μ1 Q) ∧ (¬ r2 = (0 : Int32) → wm_Wp 0 147 34 [.ref 0, .int x1, .null, .null] μ1 Q)))) : wm_Wp 0 147 20 [.ref 0, .int x1, .null, .null] μ Q := wm_vc mo_147 (rt := some .int) (by decide +kernel) mc_147 140 h
-- WindBoat.go(I)I, the place 27
set_option maxRecDepth 100000 in
set_option maxHeartbeats 8000000 in
theorem f_147_27 (μ : wm_M) (Q : Option Value → wm_M → Prop) (h : wm_OkI 0 161 [.ref 0, .int (-3 : Int32)] μ (fun r2 μ1 => Q (some (.int r2)) μ1)) : wm_Wp 0 147 27 [.ref 0, .null, .null, .null] μ Q := wm_vc mo_147 (rt := some .int) (by decide +kernel) mc_147 140 h
-- WindBoat.go(I)I, the place 34
set_option maxRecDepth 100000 in
set_option maxHeartbeats 8000000 in
theorem f_147_34 (x1 : Int32) (μ : wm_M) (Q : Option Value → wm_M → Prop) (h : wm_OkI 0 181 [.int (μ.1 13 2), .int x1] μ (fun r2 μ1 => wm_Wp 0 147 49 [.ref 0, .int x1, .int r2, .null] μ1 Q)) : wm_Wp 0 147 34 [.ref 0, .int x1, .null, .null] μ Q := wm_vc mo_147 (rt := some .int) (by decide +kernel) mc_147 140 h
-- WindBoat.go(I)I, the place 49
set_option maxRecDepth 100000 in
set_option maxHeartbeats 8000000 in
theorem f_147_49 (x1 : Int32) (x2 : Int32) (μ : wm_M) (Q : Option Value → wm_M → Prop) (h : wm_OkI 0 164 [.ref 0, .int x2, .int x1] μ (fun r2 μ1 => wm_Wp 0 147 56 [.ref 0, .int x1, .int x2, .int r2] μ1 Q)) : wm_Wp 0 147 49 [.ref 0, .int x1, .int x2, .null] μ Q := wm_vc mo_147 (rt := some .int) (by decide +kernel) mc_147 140 h
-- WindBoat.go(I)I, the place 56
set_option maxRecDepth 100000 in
set_option maxHeartbeats 8000000 in
theorem f_147_56 (x1 : Int32) (x2 : Int32) (x3 : Int32) (μ : wm_M) (Q : Option Value → wm_M → Prop) (h : ((x3 = (0 : Int32) → wm_Wp 0 147 79 [.ref 0, .null, .null, .null] μ Q) ∧ (¬ x3 = (0 : Int32) → (((((μ.1 13 4) + x2) + x3) ≤ (120 : Int32) → wm_Wp 0 147 86 [.ref 0, .int x1, .int x2, .int x3] μ Q) ∧ (¬ (((μ.1 13 4) + x2) + x3) ≤ (120 : Int32) → wm_Wp 0 147 79 [.ref 0, .null, .null, .null] μ Q))))) : wm_Wp 0 147 56 [.ref 0, .int x1, .int x2, .int x3] μ Q := wm_vc mo_147 (rt := some .int) (by decide +kernel) mc_147 140 h
-- WindBoat.go(I)I, the place 79
set_option maxRecDepth 100000 in
set_option maxHeartbeats 8000000 in
theorem f_147_79 (μ : wm_M) (Q : Option Value → wm_M → Prop) (h : wm_OkI 0 161 [.ref 0, .int (-7 : Int32)] μ (fun r2 μ1 => Q (some (.int r2)) μ1)) : wm_Wp 0 147 79 [.ref 0, .null, .null, .null] μ Q := wm_vc mo_147 (rt := some .int) (by decide +kernel) mc_147 140 h
-- WindBoat.go(I)I, the place 86
set_option maxRecDepth 100000 in
set_option maxHeartbeats 8000000 in
theorem f_147_86 (x1 : Int32) (x2 : Int32) (x3 : Int32) (μ : wm_M) (Q : Option Value → wm_M → Prop) (h : wm_OkR 0 163 [.ref 0] μ (fun μ1 => wm_OkV 0 52 [.ref 1, .int (x2 + x3)] μ1 (fun μ2 => wm_Wp 0 147 96 [.ref 0, .int x1, .null, .null] μ2 Q))) : wm_Wp 0 147 86 [.ref 0, .int x1, .int x2, .int x3] μ Q := wm_vc mo_147 (rt := some .int) (by decide +kernel) mc_147 140 h
-- WindBoat.go(I)I, the place 96
set_option maxRecDepth 100000 in
set_option maxHeartbeats 8000000 in
theorem f_147_96 (x1 : Int32) (μ : wm_M) (Q : Option Value → wm_M → Prop) (h : wm_OkV 0 4 [.ref 13, .int x1] μ (fun μ1 => wm_Wp 0 147 107 [.ref 0, .null, .null, .null] μ1 Q)) : wm_Wp 0 147 96 [.ref 0, .int x1, .null, .null] μ Q := wm_vc mo_147 (rt := some .int) (by decide +kernel) mc_147 140 h
-- WindBoat.go(I)I, the place 107
set_option maxRecDepth 100000 in
set_option maxHeartbeats 8000000 in
theorem f_147_107 (μ : wm_M) (Q : Option Value → wm_M → Prop) (h : Q (some (.int (μ.1 13 4))) μ) : wm_Wp 0 147 107 [.ref 0, .null, .null, .null] μ Q := wm_vc mo_147 (rt := some .int) (by decide +kernel) mc_147 140 h
-- WindBoat.raise(I)I
set_option maxRecDepth 100000 in
set_option maxHeartbeats 8000000 in
theorem f_148 (a1 : Int32) (μ : wm_M) (Q : Option Value → wm_M → Prop) (h : (((μ.1 13 0) = (0 : Int32) → wm_OkI 0 161 [.ref 0, .int (-2 : Int32)] μ (fun r2 μ1 => Q (some (.int r2)) μ1)) ∧ (¬ (μ.1 13 0) = (0 : Int32) → wm_Wp 0 148 20 [.ref 0, .int a1, .null] μ Q))) : wm_Ok 0 148 [.ref 0, .int a1] μ Q := wm_ent (nL := 3) (l := [.ref 0, .int a1, .null]) (by decide +kernel) (by decide +kernel) (by decide +kernel) rfl rfl (wm_vc mo_148 (rt := some .int) (by decide +kernel) mc_148 148 h)
-- WindBoat.raise(I)I, the place 20
set_option maxRecDepth 100000 in
set_option maxHeartbeats 8000000 in
theorem f_148_20 (x1 : Int32) (μ : wm_M) (Q : Option Value → wm_M → Prop) (h : wm_OkI 0 165 [.ref 0, .int x1] μ (fun r2 μ1 => ((r2 = (0 : Int32) → wm_Wp 0 148 28 [.ref 0, .null, .null] μ1 Q) ∧ (¬ r2 = (0 : Int32) → wm_Wp 0 148 35 [.ref 0, .int x1, .null] μ1 Q)))) : wm_Wp 0 148 20 [.ref 0, .int x1, .null] μ Q := wm_vc mo_148 (rt := some .int) (by decide +kernel) mc_148 148 h
-- WindBoat.raise(I)I, the place 28
set_option maxRecDepth 100000 in
set_option maxHeartbeats 8000000 in
theorem f_148_28 (μ : wm_M) (Q : Option Value → wm_M → Prop) (h : wm_OkI 0 161 [.ref 0, .int (-3 : Int32)] μ (fun r2 μ1 => Q (some (.int r2)) μ1)) : wm_Wp 0 148 28 [.ref 0, .null, .null] μ Q := wm_vc mo_148 (rt := some .int) (by decide +kernel) mc_148 148 h
-- WindBoat.raise(I)I, the place 35
set_option maxRecDepth 100000 in
set_option maxHeartbeats 8000000 in
theorem f_148_35 (x1 : Int32) (μ : wm_M) (Q : Option Value → wm_M → Prop) (h : ((x1 = (μ.1 13 3) → wm_Wp 0 148 64 [.ref 0, .null, .null] μ Q) ∧ (¬ x1 = (μ.1 13 3) → (vp_in x1 3 ∧ (((μ.1 15 (x1).toNatClampNeg) = (0 : Int32) → wm_Wp 0 148 71 [.ref 0, .int x1, .null] μ Q) ∧ (¬ (μ.1 15 (x1).toNatClampNeg) = (0 : Int32) → wm_Wp 0 148 64 [.ref 0, .null, .null] μ Q)))))) : wm_Wp 0 148 35 [.ref 0, .int x1, .null] μ Q := wm_vc mo_148 (rt := some .int) (by decide +kernel) mc_148 148 h
-- WindBoat.raise(I)I, the place 64
set_option maxRecDepth 100000 in
set_option maxHeartbeats 8000000 in
theorem f_148_64 (μ : wm_M) (Q : Option Value → wm_M → Prop) (h : wm_OkI 0 161 [.ref 0, .int (-7 : Int32)] μ (fun r2 μ1 => Q (some (.int r2)) μ1)) : wm_Wp 0 148 64 [.ref 0, .null, .null] μ Q := wm_vc mo_148 (rt := some .int) (by decide +kernel) mc_148 148 h
-- WindBoat.raise(I)I, the place 71
set_option maxRecDepth 100000 in
set_option maxHeartbeats 8000000 in
theorem f_148_71 (x1 : Int32) (μ : wm_M) (Q : Option Value → wm_M → Prop) (h : wm_OkI 0 49 [.ref 1] μ (fun r2 μ1 => wm_Wp 0 148 79 [.ref 0, .int x1, .int r2] μ1 Q)) : wm_Wp 0 148 71 [.ref 0, .int x1, .null] μ Q := wm_vc mo_148 (rt := some .int) (by decide +kernel) mc_148 148 h
-- WindBoat.raise(I)I, the place 79
set_option maxRecDepth 100000 in
set_option maxHeartbeats 8000000 in
theorem f_148_79 (x1 : Int32) (x2 : Int32) (μ : wm_M) (Q : Option Value → wm_M → Prop) (h : ((((μ.1 13 4) + x2) ≤ (120 : Int32) → wm_Wp 0 148 103 [.ref 0, .int x1, .int x2] μ Q) ∧ (¬ ((μ.1 13 4) + x2) ≤ (120 : Int32) → wm_OkI 0 161 [.ref 0, .int (-8 : Int32)] μ (fun r2 μ1 => Q (some (.int r2)) μ1)))) : wm_Wp 0 148 79 [.ref 0, .int x1, .int x2] μ Q := wm_vc mo_148 (rt := some .int) (by decide +kernel) mc_148 148 h
-- WindBoat.raise(I)I, the place 103
set_option maxRecDepth 100000 in
set_option maxHeartbeats 8000000 in
theorem f_148_103 (x1 : Int32) (x2 : Int32) (μ : wm_M) (Q : Option Value → wm_M → Prop) (h : wm_OkR 0 163 [.ref 0] μ (fun μ1 => wm_OkV 0 52 [.ref 1, .int x2] μ1 (fun μ2 => wm_Wp 0 148 111 [.ref 0, .int x1, .null] μ2 Q))) : wm_Wp 0 148 103 [.ref 0, .int x1, .int x2] μ Q := wm_vc mo_148 (rt := some .int) (by decide +kernel) mc_148 148 h
-- WindBoat.raise(I)I, the place 111
set_option maxRecDepth 100000 in
set_option maxHeartbeats 8000000 in
theorem f_148_111 (x1 : Int32) (μ : wm_M) (Q : Option Value → wm_M → Prop) (h : wm_Wp 0 148 122 [.ref 0, .null, .null] (wm_si μ 13 3 x1) Q) : wm_Wp 0 148 111 [.ref 0, .int x1, .null] μ Q := wm_vc mo_148 (rt := some .int) (by decide +kernel) mc_148 148 h
-- WindBoat.raise(I)I, the place 122
set_option maxRecDepth 100000 in
set_option maxHeartbeats 8000000 in
theorem f_148_122 (μ : wm_M) (Q : Option Value → wm_M → Prop) (h : Q (some (.int (μ.1 13 4))) μ) : wm_Wp 0 148 122 [.ref 0, .null, .null] μ Q := wm_vc mo_148 (rt := some .int) (by decide +kernel) mc_148 148 h
-- WindBoat.mend(I)I
set_option maxRecDepth 100000 in
set_option maxHeartbeats 8000000 in
theorem f_149 (a1 : Int32) (μ : wm_M) (Q : Option Value → wm_M → Prop) (h : (((μ.1 13 0) = (0 : Int32) → wm_OkI 0 161 [.ref 0, .int (-2 : Int32)] μ (fun r2 μ1 => Q (some (.int r2)) μ1)) ∧ (¬ (μ.1 13 0) = (0 : Int32) → wm_Wp 0 149 20 [.ref 0, .int a1] μ Q))) : wm_Ok 0 149 [.ref 0, .int a1] μ Q := wm_ent (nL := 2) (l := [.ref 0, .int a1]) (by decide +kernel) (by decide +kernel) (by decide +kernel) rfl rfl (wm_vc mo_149 (rt := some .int) (by decide +kernel) mc_149 132 h)
-- WindBoat.mend(I)I, the place 20
set_option maxRecDepth 100000 in
set_option maxHeartbeats 8000000 in
theorem f_149_20 (x1 : Int32) (μ : wm_M) (Q : Option Value → wm_M → Prop) (h : wm_OkI 0 165 [.ref 0, .int x1] μ (fun r2 μ1 => ((r2 = (0 : Int32) → wm_Wp 0 149 28 [.ref 0, .null] μ1 Q) ∧ (¬ r2 = (0 : Int32) → wm_Wp 0 149 35 [.ref 0, .int x1] μ1 Q)))) : wm_Wp 0 149 20 [.ref 0, .int x1] μ Q := wm_vc mo_149 (rt := some .int) (by decide +kernel) mc_149 132 h
-- WindBoat.mend(I)I, the place 28
set_option maxRecDepth 100000 in
set_option maxHeartbeats 8000000 in
theorem f_149_28 (μ : wm_M) (Q : Option Value → wm_M → Prop) (h : wm_OkI 0 161 [.ref 0, .int (-3 : Int32)] μ (fun r2 μ1 => Q (some (.int r2)) μ1)) : wm_Wp 0 149 28 [.ref 0, .null] μ Q := wm_vc mo_149 (rt := some .int) (by decide +kernel) mc_149 132 h
-- WindBoat.mend(I)I, the place 35
set_option maxRecDepth 100000 in
set_option maxHeartbeats 8000000 in
theorem f_149_35 (x1 : Int32) (μ : wm_M) (Q : Option Value → wm_M → Prop) (h : (vp_in x1 3 ∧ (((μ.1 15 (x1).toNatClampNeg) = (0 : Int32) → wm_OkI 0 161 [.ref 0, .int (-7 : Int32)] μ (fun r2 μ1 => Q (some (.int r2)) μ1)) ∧ (¬ (μ.1 15 (x1).toNatClampNeg) = (0 : Int32) → wm_Wp 0 149 57 [.ref 0, .int x1] μ Q)))) : wm_Wp 0 149 35 [.ref 0, .int x1] μ Q := wm_vc mo_149 (rt := some .int) (by decide +kernel) mc_149 132 h
-- WindBoat.mend(I)I, the place 57
set_option maxRecDepth 100000 in
set_option maxHeartbeats 8000000 in
theorem f_149_57 (x1 : Int32) (μ : wm_M) (Q : Option Value → wm_M → Prop) (h : ((((μ.1 13 4) + (12 : Int32)) ≤ (120 : Int32) → wm_Wp 0 149 82 [.ref 0, .int x1] μ Q) ∧ (¬ ((μ.1 13 4) + (12 : Int32)) ≤ (120 : Int32) → wm_OkI 0 161 [.ref 0, .int (-8 : Int32)] μ (fun r2 μ1 => Q (some (.int r2)) μ1)))) : wm_Wp 0 149 57 [.ref 0, .int x1] μ Q := wm_vc mo_149 (rt := some .int) (by decide +kernel) mc_149 132 h
-- WindBoat.mend(I)I, the place 82
set_option maxRecDepth 100000 in
set_option maxHeartbeats 8000000 in
theorem f_149_82 (x1 : Int32) (μ : wm_M) (Q : Option Value → wm_M → Prop) (h : wm_OkR 0 163 [.ref 0] μ (fun μ1 => wm_OkV 0 52 [.ref 1, .int (12 : Int32)] μ1 (fun μ2 => wm_Wp 0 149 91 [.ref 0, .int x1] μ2 Q))) : wm_Wp 0 149 82 [.ref 0, .int x1] μ Q := wm_vc mo_149 (rt := some .int) (by decide +kernel) mc_149 132 h
-- WindBoat.mend(I)I, the place 91
set_option maxRecDepth 100000 in
set_option maxHeartbeats 8000000 in
theorem f_149_91 (x1 : Int32) (μ : wm_M) (Q : Option Value → wm_M → Prop) (h : (vp_in x1 3 ∧ wm_Wp 0 149 104 [.ref 0, .null] (wm_si μ 15 (x1).toNatClampNeg (vp_nar .boolean (0 : Int32))) Q)) : wm_Wp 0 149 91 [.ref 0, .int x1] μ Q := wm_vc mo_149 (rt := some .int) (by decide +kernel) mc_149 132 h
-- WindBoat.mend(I)I, the place 104
set_option maxRecDepth 100000 in
set_option maxHeartbeats 8000000 in
theorem f_149_104 (μ : wm_M) (Q : Option Value → wm_M → Prop) (h : Q (some (.int (μ.1 13 4))) μ) : wm_Wp 0 149 104 [.ref 0, .null] μ Q := wm_vc mo_149 (rt := some .int) (by decide +kernel) mc_149 132 h
-- WindBoat.boat(I)I
set_option maxRecDepth 100000 in
set_option maxHeartbeats 8000000 in
theorem f_150 (a1 : Int32) (μ : wm_M) (Q : Option Value → wm_M → Prop) (h : (((μ.1 13 0) = (0 : Int32) → wm_OkI 0 161 [.ref 0, .int (-2 : Int32)] μ (fun r2 μ1 => Q (some (.int r2)) μ1)) ∧ (¬ (μ.1 13 0) = (0 : Int32) → wm_Wp 0 150 20 [.ref 0, .int a1] μ Q))) : wm_Ok 0 150 [.ref 0, .int a1] μ Q := wm_ent (nL := 2) (l := [.ref 0, .int a1]) (by decide +kernel) (by decide +kernel) (by decide +kernel) rfl rfl (wm_vc mo_150 (rt := some .int) (by decide +kernel) mc_150 126 h)
-- WindBoat.boat(I)I, the place 20
set_option maxRecDepth 100000 in
set_option maxHeartbeats 8000000 in
theorem f_150_20 (x1 : Int32) (μ : wm_M) (Q : Option Value → wm_M → Prop) (h : (((x1).toInt < 0 ∨ 7 < (x1).toInt → wm_Wp 0 150 150 [.ref 0, .null] μ Q) ∧ (((x1).toInt = 0 → wm_Wp 0 150 68 [.ref 0, .null] μ Q) ∧ (((x1).toInt = 1 → wm_Wp 0 150 79 [.ref 0, .null] μ Q) ∧ (((x1).toInt = 2 → wm_Wp 0 150 90 [.ref 0, .null] μ Q) ∧ (((x1).toInt = 3 → wm_Wp 0 150 101 [.ref 0, .null] μ Q) ∧ (((x1).toInt = 4 → wm_Wp 0 150 112 [.ref 0, .null] μ Q) ∧ (((x1).toInt = 5 → wm_Wp 0 150 120 [.ref 0, .null] μ Q) ∧ (((x1).toInt = 6 → wm_Wp 0 150 131 [.ref 0, .null] μ Q) ∧ (((x1).toInt = 7 → wm_Wp 0 150 139 [.ref 0, .null] μ Q) ∧ True)))))))))) : wm_Wp 0 150 20 [.ref 0, .int x1] μ Q := wm_vc mo_150 (rt := some .int) (by decide +kernel) mc_150 126 h
-- WindBoat.boat(I)I, the place 68
set_option maxRecDepth 100000 in
set_option maxHeartbeats 8000000 in
theorem f_150_68 (μ : wm_M) (Q : Option Value → wm_M → Prop) (h : Q (some (.int (μ.1 13 1))) μ) : wm_Wp 0 150 68 [.ref 0, .null] μ Q := wm_vc mo_150 (rt := some .int) (by decide +kernel) mc_150 126 h
-- WindBoat.boat(I)I, the place 79
set_option maxRecDepth 100000 in
set_option maxHeartbeats 8000000 in
theorem f_150_79 (μ : wm_M) (Q : Option Value → wm_M → Prop) (h : Q (some (.int (μ.1 13 2))) μ) : wm_Wp 0 150 79 [.ref 0, .null] μ Q := wm_vc mo_150 (rt := some .int) (by decide +kernel) mc_150 126 h
-- WindBoat.boat(I)I, the place 90
set_option maxRecDepth 100000 in
set_option maxHeartbeats 8000000 in
theorem f_150_90 (μ : wm_M) (Q : Option Value → wm_M → Prop) (h : Q (some (.int (μ.1 13 3))) μ) : wm_Wp 0 150 90 [.ref 0, .null] μ Q := wm_vc mo_150 (rt := some .int) (by decide +kernel) mc_150 126 h
-- WindBoat.boat(I)I, the place 101
set_option maxRecDepth 100000 in
set_option maxHeartbeats 8000000 in
theorem f_150_101 (μ : wm_M) (Q : Option Value → wm_M → Prop) (h : Q (some (.int (μ.1 13 4))) μ) : wm_Wp 0 150 101 [.ref 0, .null] μ Q := wm_vc mo_150 (rt := some .int) (by decide +kernel) mc_150 126 h
-- WindBoat.boat(I)I, the place 112
set_option maxRecDepth 100000 in
set_option maxHeartbeats 8000000 in
theorem f_150_112 (μ : wm_M) (Q : Option Value → wm_M → Prop) (h : wm_OkI 0 49 [.ref 1] μ (fun r2 μ1 => Q (some (.int r2)) μ1)) : wm_Wp 0 150 112 [.ref 0, .null] μ Q := wm_vc mo_150 (rt := some .int) (by decide +kernel) mc_150 126 h
-- WindBoat.boat(I)I, the place 120
set_option maxRecDepth 100000 in
set_option maxHeartbeats 8000000 in
theorem f_150_120 (μ : wm_M) (Q : Option Value → wm_M → Prop) (h : Q (some (.int (μ.1 13 14))) μ) : wm_Wp 0 150 120 [.ref 0, .null] μ Q := wm_vc mo_150 (rt := some .int) (by decide +kernel) mc_150 126 h
-- WindBoat.boat(I)I, the place 131
set_option maxRecDepth 100000 in
set_option maxHeartbeats 8000000 in
theorem f_150_131 (μ : wm_M) (Q : Option Value → wm_M → Prop) (h : wm_OkI 0 48 [.ref 1] μ (fun r2 μ1 => Q (some (.int r2)) μ1)) : wm_Wp 0 150 131 [.ref 0, .null] μ Q := wm_vc mo_150 (rt := some .int) (by decide +kernel) mc_150 126 h
-- WindBoat.boat(I)I, the place 139
set_option maxRecDepth 100000 in
set_option maxHeartbeats 8000000 in
theorem f_150_139 (μ : wm_M) (Q : Option Value → wm_M → Prop) (h : wm_OkI 0 14 [.ref 13] μ (fun r2 μ1 => Q (some (.int r2)) μ1)) : wm_Wp 0 150 139 [.ref 0, .null] μ Q := wm_vc mo_150 (rt := some .int) (by decide +kernel) mc_150 126 h
-- WindBoat.boat(I)I, the place 150
set_option maxRecDepth 100000 in
set_option maxHeartbeats 8000000 in
theorem f_150_150 (μ : wm_M) (Q : Option Value → wm_M → Prop) (h : wm_OkI 0 161 [.ref 0, .int (-7 : Int32)] μ (fun r2 μ1 => Q (some (.int r2)) μ1)) : wm_Wp 0 150 150 [.ref 0, .null] μ Q := wm_vc mo_150 (rt := some .int) (by decide +kernel) mc_150 126 h
-- WindBoat.lost(II)I
set_option maxRecDepth 100000 in
set_option maxHeartbeats 8000000 in
theorem f_151 (a1 : Int32) (a2 : Int32) (μ : wm_M) (Q : Option Value → wm_M → Prop) (h : (((μ.1 13 0) = (0 : Int32) → wm_OkI 0 161 [.ref 0, .int (-2 : Int32)] μ (fun r2 μ1 => Q (some (.int r2)) μ1)) ∧ (¬ (μ.1 13 0) = (0 : Int32) → wm_Wp 0 151 20 [.ref 0, .int a1, .int a2] μ Q))) : wm_Ok 0 151 [.ref 0, .int a1, .int a2] μ Q := wm_ent (nL := 3) (l := [.ref 0, .int a1, .int a2]) (by decide +kernel) (by decide +kernel) (by decide +kernel) rfl rfl (wm_vc mo_151 (rt := some .int) (by decide +kernel) mc_151 132 h)
-- WindBoat.lost(II)I, the place 20
set_option maxRecDepth 100000 in
set_option maxHeartbeats 8000000 in
theorem f_151_20 (x1 : Int32) (x2 : Int32) (μ : wm_M) (Q : Option Value → wm_M → Prop) (h : wm_OkI 0 170 [.int x1] μ (fun r2 μ1 => ((r2 = (0 : Int32) → wm_Wp 0 151 27 [.ref 0, .null, .null] μ1 Q) ∧ (¬ r2 = (0 : Int32) → wm_Wp 0 151 34 [.ref 0, .int x1, .int x2] μ1 Q)))) : wm_Wp 0 151 20 [.ref 0, .int x1, .int x2] μ Q := wm_vc mo_151 (rt := some .int) (by decide +kernel) mc_151 132 h
-- WindBoat.lost(II)I, the place 27
set_option maxRecDepth 100000 in
set_option maxHeartbeats 8000000 in
theorem f_151_27 (μ : wm_M) (Q : Option Value → wm_M → Prop) (h : wm_OkI 0 161 [.ref 0, .int (-3 : Int32)] μ (fun r2 μ1 => Q (some (.int r2)) μ1)) : wm_Wp 0 151 27 [.ref 0, .null, .null] μ Q := wm_vc mo_151 (rt := some .int) (by decide +kernel) mc_151 132 h
-- WindBoat.lost(II)I, the place 34
set_option maxRecDepth 100000 in
set_option maxHeartbeats 8000000 in
theorem f_151_34 (x1 : Int32) (x2 : Int32) (μ : wm_M) (Q : Option Value → wm_M → Prop) (h : wm_OkI 0 178 [.int x2, .int (0 : Int32), .int (4 : Int32)] μ (fun r2 μ1 => ((r2 = (0 : Int32) → wm_Wp 0 151 43 [.ref 0, .null, .null] μ1 Q) ∧ (¬ r2 = (0 : Int32) → wm_Wp 0 151 50 [.ref 0, .int x1, .int x2] μ1 Q)))) : wm_Wp 0 151 34 [.ref 0, .int x1, .int x2] μ Q := wm_vc mo_151 (rt := some .int) (by decide +kernel) mc_151 132 h
-- WindBoat.lost(II)I, the place 43
set_option maxRecDepth 100000 in
set_option maxHeartbeats 8000000 in
theorem f_151_43 (μ : wm_M) (Q : Option Value → wm_M → Prop) (h : wm_OkI 0 161 [.ref 0, .int (-7 : Int32)] μ (fun r2 μ1 => Q (some (.int r2)) μ1)) : wm_Wp 0 151 43 [.ref 0, .null, .null] μ Q := wm_vc mo_151 (rt := some .int) (by decide +kernel) mc_151 132 h
-- WindBoat.lost(II)I, the place 50
set_option maxRecDepth 100000 in
set_option maxHeartbeats 8000000 in
theorem f_151_50 (x1 : Int32) (x2 : Int32) (μ : wm_M) (Q : Option Value → wm_M → Prop) (h : wm_OkV 0 17 [.ref 62] μ (fun μ1 => wm_Wp 0 151 57 [.ref 0, .int x1, .int x2] μ1 Q)) : wm_Wp 0 151 50 [.ref 0, .int x1, .int x2] μ Q := wm_vc mo_151 (rt := some .int) (by decide +kernel) mc_151 132 h
-- WindBoat.lost(II)I, the place 57
set_option maxRecDepth 100000 in
set_option maxHeartbeats 8000000 in
theorem f_151_57 (x1 : Int32) (x2 : Int32) (μ : wm_M) (Q : Option Value → wm_M → Prop) (h : wm_OkI 0 49 [.ref 1] μ (fun r2 μ1 => wm_OkV 0 55 [.ref 81, .int x1, .int r2] μ1 (fun μ3 => wm_Wp 0 151 72 [.ref 0, .null, .int x2] μ3 Q))) : wm_Wp 0 151 57 [.ref 0, .int x1, .int x2] μ Q := wm_vc mo_151 (rt := some .int) (by decide +kernel) mc_151 132 h
-- WindBoat.lost(II)I, the place 72
set_option maxRecDepth 100000 in
set_option maxHeartbeats 8000000 in
theorem f_151_72 (x2 : Int32) (μ : wm_M) (Q : Option Value → wm_M → Prop) (h : (((∀ q ∈ (#[(3, 27), (4, 37)] : Array (Int × Int)).toList, ¬ (x2).toInt = q.1) → wm_Wp 0 151 121 [.ref 0, .null, .int x2] μ Q) ∧ (((x2).toInt = 3 → wm_Wp 0 151 100 [.ref 0, .null, .null] μ Q) ∧ (((x2).toInt = 4 → wm_Wp 0 151 110 [.ref 0, .null, .null] μ Q) ∧ True)))) : wm_Wp 0 151 72 [.ref 0, .null, .int x2] μ Q := wm_vc mo_151 (rt := some .int) (by decide +kernel) mc_151 132 h
-- WindBoat.lost(II)I, the place 100
set_option maxRecDepth 100000 in
set_option maxHeartbeats 8000000 in
theorem f_151_100 (μ : wm_M) (Q : Option Value → wm_M → Prop) (h : (vp_in (0 : Int32) 8 ∧ Q (some (.int (μ.1 84 ((0 : Int32)).toNatClampNeg))) μ)) : wm_Wp 0 151 100 [.ref 0, .null, .null] μ Q := wm_vc mo_151 (rt := some .int) (by decide +kernel) mc_151 132 h
-- WindBoat.lost(II)I, the place 110
set_option maxRecDepth 100000 in
set_option maxHeartbeats 8000000 in
theorem f_151_110 (μ : wm_M) (Q : Option Value → wm_M → Prop) (h : (vp_in (7 : Int32) 8 ∧ Q (some (.int (μ.1 84 ((7 : Int32)).toNatClampNeg))) μ)) : wm_Wp 0 151 110 [.ref 0, .null, .null] μ Q := wm_vc mo_151 (rt := some .int) (by decide +kernel) mc_151 132 h
-- WindBoat.lost(II)I, the place 121
set_option maxRecDepth 100000 in
set_option maxHeartbeats 8000000 in
theorem f_151_121 (x2 : Int32) (μ : wm_M) (Q : Option Value → wm_M → Prop) (h : wm_OkI 0 58 [.ref 81, .int ((1 : Int32) <<< (x2 &&& 31))] μ (fun r2 μ1 => Q (some (.int r2)) μ1)) : wm_Wp 0 151 121 [.ref 0, .null, .int x2] μ Q := wm_vc mo_151 (rt := some .int) (by decide +kernel) mc_151 132 h
