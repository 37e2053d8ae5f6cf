/-! ===== what each block of code asks (printed by wip/gen/genvc.py) ===== -/
-- WindBoat$Rules.name(IIIII)V
set_option maxRecDepth 100000 in
set_option maxHeartbeats 8000000 in
theorem v_62 (a1 : Int32) (a2 : Int32) (a3 : Int32) (a4 : Int32) (a5 : Int32) (μ : wm_M) (Q : Option Value → wm_M → Prop) (h : (vp_in (0 : Int32) 6 ∧ (¬ (6 : Int32) = 0 ∧ (vp_in (1 : Int32) 6 ∧ (vp_in (2 : Int32) 6 ∧ (vp_in (3 : Int32) 6 ∧ (vp_in (4 : Int32) 6 ∧ (vp_in (5 : Int32) 6 ∧ Q none (wm_si (wm_si (wm_si (wm_si (wm_si (wm_si μ 25 ((0 : Int32)).toNatClampNeg a1) 25 ((1 : Int32)).toNatClampNeg (a1 / (6 : Int32))) 25 ((2 : Int32)).toNatClampNeg a2) 25 ((3 : Int32)).toNatClampNeg a3) 25 ((4 : Int32)).toNatClampNeg a4) 25 ((5 : Int32)).toNatClampNeg a5))))))))) : wm_Ok 0 62 [.ref 18, .int a1, .int a2, .int a3, .int a4, .int a5] μ Q := wm_ent (nL := 6) (l := [.ref 18, .int a1, .int a2, .int a3, .int a4, .int a5]) (by decide +kernel) (by decide +kernel) (by decide +kernel) rfl rfl (wm_vc mo_62 (rt := none) (by decide +kernel) mc_62 86 h)
-- WindBoat$Rules.ruling(I)I
set_option maxRecDepth 100000 in
set_option maxHeartbeats 8000000 in
theorem v_63 (a1 : Int32) (μ : wm_M) (Q : Option Value → wm_M → Prop) (h : (vp_in (2 : Int32) 6 ∧ wm_Wp 0 63 14 [.ref 18, .int a1, .int (μ.1 25 ((2 : Int32)).toNatClampNeg), .int ((μ.1 18 6) - (1 : Int32)), .null, .null] μ Q)) : wm_Ok 0 63 [.ref 18, .int a1] μ Q := wm_ent (nL := 6) (l := [.ref 18, .int a1, .null, .null, .null, .null]) (by decide +kernel) (by decide +kernel) (by decide +kernel) rfl rfl (wm_vc mo_63 (rt := some .int) (by decide +kernel) mc_63 130 h)
-- WindBoat$Rules.ruling(I)I, the place 14
set_option maxRecDepth 100000 in
set_option maxHeartbeats 8000000 in
theorem w_63_14 (x1 : Int32) (x2 : Int32) (x3 : Int32) (μ : wm_M) (Q : Option Value → wm_M → Prop) (h : ((x3 < (0 : Int32) → wm_Wp 0 63 91 [.null, .null, .null, .null, .null, .null] μ Q) ∧ (¬ x3 < (0 : Int32) → (vp_in x3 12 ∧ (((μ.1 19 (x3).toNatClampNeg) = x1 → (vp_in x3 12 ∧ ((x2 < (μ.1 20 (x3).toNatClampNeg) → wm_Wp 0 63 85 [.ref 18, .int x1, .int x2, .int x3, .null, .null] μ Q) ∧ (¬ x2 < (μ.1 20 (x3).toNatClampNeg) → (vp_in x3 12 ∧ (((μ.1 21 (x3).toNatClampNeg) ≤ x2 → wm_Wp 0 63 85 [.ref 18, .int x1, .int x2, .int x3, .null, .null] μ Q) ∧ (¬ (μ.1 21 (x3).toNatClampNeg) ≤ x2 → (vp_in x3 12 ∧ (vp_in x3 12 ∧ (((μ.1 22 (x3).toNatClampNeg) = (μ.1 23 (x3).toNatClampNeg) → wm_Wp 0 63 83 [.null, .null, .null, .int x3, .null, .null] μ Q) ∧ (¬ (μ.1 22 (x3).toNatClampNeg) = (μ.1 23 (x3).toNatClampNeg) → wm_OkI 0 65 [.ref 18, .int x3, .int (μ.1 22 (x3).toNatClampNeg), .int (μ.1 23 (x3).toNatClampNeg)] μ (fun r2 μ1 => ((r2 = (0 : Int32) → wm_Wp 0 63 85 [.ref 18, .int x1, .int x2, .int x3, .null, .null] μ1 Q) ∧ (¬ r2 = (0 : Int32) → wm_Wp 0 63 83 [.null, .null, .null, .int x3, .null, .null] μ1 Q)))))))))))))) ∧ (¬ (μ.1 19 (x3).toNatClampNeg) = x1 → wm_Wp 0 63 85 [.ref 18, .int x1, .int x2, .int x3, .null, .null] μ Q)))))) : wm_Wp 0 63 14 [.ref 18, .int x1, .int x2, .int x3, .null, .null] μ Q := wm_vc mo_63 (rt := some .int) (by decide +kernel) mc_63 130 h
-- WindBoat$Rules.ruling(I)I, the place 83
set_option maxRecDepth 100000 in
set_option maxHeartbeats 8000000 in
theorem w_63_83 (x3 : Int32) (μ : wm_M) (Q : Option Value → wm_M → Prop) (h : Q (some (.int x3)) μ) : wm_Wp 0 63 83 [.null, .null, .null, .int x3, .null, .null] μ Q := wm_vc mo_63 (rt := some .int) (by decide +kernel) mc_63 130 h
-- WindBoat$Rules.ruling(I)I, the place 85
set_option maxRecDepth 100000 in
set_option maxHeartbeats 8000000 in
theorem w_63_85 (x1 : Int32) (x2 : Int32) (x3 : Int32) (μ : wm_M) (Q : Option Value → wm_M → Prop) (h : wm_Wp 0 63 14 [.ref 18, .int x1, .int x2, .int (x3 + (-1 : Int32)), .null, .null] μ Q) : wm_Wp 0 63 85 [.ref 18, .int x1, .int x2, .int x3, .null, .null] μ Q := wm_vc mo_63 (rt := some .int) (by decide +kernel) mc_63 130 h
-- WindBoat$Rules.ruling(I)I, the place 91
set_option maxRecDepth 100000 in
set_option maxHeartbeats 8000000 in
theorem w_63_91 (μ : wm_M) (Q : Option Value → wm_M → Prop) (h : Q (some (.int (-1 : Int32))) μ) : wm_Wp 0 63 91 [.null, .null, .null, .null, .null, .null] μ Q := wm_vc mo_63 (rt := some .int) (by decide +kernel) mc_63 130 h
-- WindBoat$Rules.answer(I)I
set_option maxRecDepth 100000 in
set_option maxHeartbeats 8000000 in
theorem v_64 (a1 : Int32) (μ : wm_M) (Q : Option Value → wm_M → Prop) (h : wm_OkI 0 63 [.ref 18, .int a1] μ (fun r2 μ1 => ((r2 = (-1 : Int32) → (vp_in a1 3 ∧ Q (some (.int (([0, 39, 40] : List Int32).getD (a1).toNatClampNeg 0))) μ1)) ∧ (¬ r2 = (-1 : Int32) → wm_Wp 0 64 19 [.ref 18, .null, .int r2] μ1 Q)))) : wm_Ok 0 64 [.ref 18, .int a1] μ Q := wm_ent (nL := 3) (l := [.ref 18, .int a1, .null]) (by decide +kernel) (by decide +kernel) (by decide +kernel) rfl rfl (wm_vc mo_64 (rt := some .int) (by decide +kernel) mc_64 60 h)
-- WindBoat$Rules.answer(I)I, the place 19
set_option maxRecDepth 100000 in
set_option maxHeartbeats 8000000 in
theorem w_64_19 (x2 : Int32) (μ : wm_M) (Q : Option Value → wm_M → Prop) (h : (vp_in x2 12 ∧ wm_OkI 0 65 [.ref 18, .int x2, .int (0 : Int32), .int (μ.1 22 (x2).toNatClampNeg)] μ (fun r2 μ1 => Q (some (.int r2)) μ1))) : wm_Wp 0 64 19 [.ref 18, .null, .int x2] μ Q := wm_vc mo_64 (rt := some .int) (by decide +kernel) mc_64 60 h
-- WindBoat$Rules.work(III)I
set_option maxRecDepth 100000 in
set_option maxHeartbeats 8000000 in
theorem v_65 (a1 : Int32) (a2 : Int32) (a3 : Int32) (μ : wm_M) (Q : Option Value → wm_M → Prop) (h : wm_Wp 0 65 6 [.ref 18, .int a1, .null, .int a3, .int (0 : Int32), .int a2, .null] μ Q) : wm_Ok 0 65 [.ref 18, .int a1, .int a2, .int a3] μ Q := wm_ent (nL := 7) (l := [.ref 18, .int a1, .int a2, .int a3, .null, .null, .null]) (by decide +kernel) (by decide +kernel) (by decide +kernel) rfl rfl (wm_vc mo_65 (rt := some .int) (by decide +kernel) mc_65 236 h)
-- WindBoat$Rules.work(III)I, the place 6
set_option maxRecDepth 100000 in
set_option maxHeartbeats 8000000 in
theorem w_65_6 (x1 : Int32) (x3 : Int32) (x4 : Int32) (x5 : Int32) (μ : wm_M) (Q : Option Value → wm_M → Prop) (h : ((x3 ≤ x5 → wm_Wp 0 65 191 [.ref 18, .null, .null, .null, .null, .null, .null] μ Q) ∧ (¬ x3 ≤ x5 → (vp_in ((x1 * (120 : Int32)) + x5) 1440 ∧ (((μ.1 24 (((x1 * (120 : Int32)) + x5)).toNatClampNeg) ≤ (-100 : Int32) → wm_Wp 0 65 65 [.ref 18, .int x1, .null, .int x3, .int x4, .int x5, .int (μ.1 24 (((x1 * (120 : Int32)) + x5)).toNatClampNeg)] μ Q) ∧ (¬ (μ.1 24 (((x1 * (120 : Int32)) + x5)).toNatClampNeg) ≤ (-100 : Int32) → (((μ.1 24 (((x1 * (120 : Int32)) + x5)).toNatClampNeg) < (0 : Int32) → (vp_in ((-1 : Int32) - (μ.1 24 (((x1 * (120 : Int32)) + x5)).toNatClampNeg)) 6 ∧ (vp_in x4 120 ∧ wm_Wp 0 65 185 [.ref 18, .int x1, .null, .int x3, .int (x4 + (1 : Int32)), .int x5, .null] (wm_si μ 26 (x4).toNatClampNeg (μ.1 25 (((-1 : Int32) - (μ.1 24 (((x1 * (120 : Int32)) + x5)).toNatClampNeg))).toNatClampNeg)) Q))) ∧ (¬ (μ.1 24 (((x1 * (120 : Int32)) + x5)).toNatClampNeg) < (0 : Int32) → (vp_in x4 120 ∧ wm_Wp 0 65 185 [.ref 18, .int x1, .null, .int x3, .int (x4 + (1 : Int32)), .int x5, .null] (wm_si μ 26 (x4).toNatClampNeg (μ.1 24 (((x1 * (120 : Int32)) + x5)).toNatClampNeg)) Q))))))))) : wm_Wp 0 65 6 [.ref 18, .int x1, .null, .int x3, .int x4, .int x5, .null] μ Q := wm_vc mo_65 (rt := some .int) (by decide +kernel) mc_65 236 h
-- WindBoat$Rules.work(III)I, the place 65
set_option maxRecDepth 100000 in
set_option maxHeartbeats 8000000 in
theorem w_65_65 (x1 : Int32) (x3 : Int32) (x4 : Int32) (x5 : Int32) (x6 : Int32) (μ : wm_M) (Q : Option Value → wm_M → Prop) (h : ((x6 = (-112 : Int32) → ((x4 ≤ (0 : Int32) → wm_Wp 0 65 109 [.ref 18, .int x1, .null, .int x3, .int x4, .int x5, .int x6] μ Q) ∧ (¬ x4 ≤ (0 : Int32) → (vp_in (x4 - (1 : Int32)) 120 ∧ (((μ.1 26 ((x4 - (1 : Int32))).toNatClampNeg) = (0 : Int32) → wm_OkI 0 177 [.int (1 : Int32)] μ (fun r2 μ1 => (vp_in (x4 - (1 : Int32)) 120 ∧ wm_Wp 0 65 185 [.ref 18, .int x1, .null, .int x3, .int x4, .int x5, .null] (wm_si μ1 26 ((x4 - (1 : Int32))).toNatClampNeg r2) Q))) ∧ (¬ (μ.1 26 ((x4 - (1 : Int32))).toNatClampNeg) = (0 : Int32) → wm_OkI 0 177 [.int (0 : Int32)] μ (fun r4 μ3 => (vp_in (x4 - (1 : Int32)) 120 ∧ wm_Wp 0 65 185 [.ref 18, .int x1, .null, .int x3, .int x4, .int x5, .null] (wm_si μ3 26 ((x4 - (1 : Int32))).toNatClampNeg r4) Q)))))))) ∧ (¬ x6 = (-112 : Int32) → wm_Wp 0 65 109 [.ref 18, .int x1, .null, .int x3, .int x4, .int x5, .int x6] μ Q))) : wm_Wp 0 65 65 [.ref 18, .int x1, .null, .int x3, .int x4, .int x5, .int x6] μ Q := wm_vc mo_65 (rt := some .int) (by decide +kernel) mc_65 236 h
-- WindBoat$Rules.work(III)I, the place 109
set_option maxRecDepth 100000 in
set_option maxHeartbeats 8000000 in
theorem w_65_109 (x1 : Int32) (x3 : Int32) (x4 : Int32) (x5 : Int32) (x6 : Int32) (μ : wm_M) (Q : Option Value → wm_M → Prop) (h : ((x6 = (-101 : Int32) → ((x4 ≤ (0 : Int32) → wm_Wp 0 65 143 [.ref 18, .int x1, .null, .int x3, .int x4, .int x5, .int x6] μ Q) ∧ (¬ x4 ≤ (0 : Int32) → (vp_in (x4 - (1 : Int32)) 120 ∧ (vp_in (x4 - (1 : Int32)) 120 ∧ wm_Wp 0 65 185 [.ref 18, .int x1, .null, .int x3, .int x4, .int x5, .null] (wm_si μ 26 ((x4 - (1 : Int32))).toNatClampNeg (-(μ.1 26 ((x4 - (1 : Int32))).toNatClampNeg))) Q))))) ∧ (¬ x6 = (-101 : Int32) → wm_Wp 0 65 143 [.ref 18, .int x1, .null, .int x3, .int x4, .int x5, .int x6] μ Q))) : wm_Wp 0 65 109 [.ref 18, .int x1, .null, .int x3, .int x4, .int x5, .int x6] μ Q := wm_vc mo_65 (rt := some .int) (by decide +kernel) mc_65 236 h
-- WindBoat$Rules.work(III)I, the place 143
set_option maxRecDepth 100000 in
set_option maxHeartbeats 8000000 in
theorem w_65_143 (x1 : Int32) (x3 : Int32) (x4 : Int32) (x5 : Int32) (x6 : Int32) (μ : wm_M) (Q : Option Value → wm_M → Prop) (h : ((x4 ≤ (1 : Int32) → wm_Wp 0 65 185 [.ref 18, .int x1, .null, .int x3, .int x4, .int x5, .null] μ Q) ∧ (¬ x4 ≤ (1 : Int32) → (vp_in ((x4 + (-1 : Int32)) - (1 : Int32)) 120 ∧ (vp_in (x4 + (-1 : Int32)) 120 ∧ wm_OkI 0 66 [.int ((-100 : Int32) - x6), .int (μ.1 26 (((x4 + (-1 : Int32)) - (1 : Int32))).toNatClampNeg), .int (μ.1 26 ((x4 + (-1 : Int32))).toNatClampNeg)] μ (fun r2 μ1 => (vp_in ((x4 + (-1 : Int32)) - (1 : Int32)) 120 ∧ wm_Wp 0 65 185 [.ref 18, .int x1, .null, .int x3, .int (x4 + (-1 : Int32)), .int x5, .null] (wm_si μ1 26 (((x4 + (-1 : Int32)) - (1 : Int32))).toNatClampNeg r2) Q))))))) : wm_Wp 0 65 143 [.ref 18, .int x1, .null, .int x3, .int x4, .int x5, .int x6] μ Q := wm_vc mo_65 (rt := some .int) (by decide +kernel) mc_65 236 h
-- WindBoat$Rules.work(III)I, the place 185
set_option maxRecDepth 100000 in
set_option maxHeartbeats 8000000 in
theorem w_65_185 (x1 : Int32) (x3 : Int32) (x4 : Int32) (x5 : Int32) (μ : wm_M) (Q : Option Value → wm_M → Prop) (h : wm_Wp 0 65 6 [.ref 18, .int x1, .null, .int x3, .int x4, .int (x5 + (1 : Int32)), .null] μ Q) : wm_Wp 0 65 185 [.ref 18, .int x1, .null, .int x3, .int x4, .int x5, .null] μ Q := wm_vc mo_65 (rt := some .int) (by decide +kernel) mc_65 236 h
-- WindBoat$Rules.work(III)I, the place 191
set_option maxRecDepth 100000 in
set_option maxHeartbeats 8000000 in
theorem w_65_191 (μ : wm_M) (Q : Option Value → wm_M → Prop) (h : (vp_in (0 : Int32) 120 ∧ Q (some (.int (μ.1 26 ((0 : Int32)).toNatClampNeg))) μ)) : wm_Wp 0 65 191 [.ref 18, .null, .null, .null, .null, .null, .null] μ Q := wm_vc mo_65 (rt := some .int) (by decide +kernel) mc_65 236 h
-- WindBoat$Rules.together(III)I
set_option maxRecDepth 100000 in
set_option maxHeartbeats 8000000 in
theorem v_66 (a0 : Int32) (a1 : Int32) (a2 : Int32) (μ : wm_M) (Q : Option Value → wm_M → Prop) (h : (((∀ q ∈ (#[(10, 83), (11, 100), (42, 167), (43, 159), (45, 163), (47, 171), (60, 131), (61, 117), (62, 145)] : Array (Int × Int)).toList, ¬ (a0).toInt = q.1) → wm_Wp 0 66 184 [.null, .int a1, .int a2] μ Q) ∧ (((a0).toInt = 10 → wm_Wp 0 66 84 [.null, .int a1, .int a2] μ Q) ∧ (((a0).toInt = 11 → wm_Wp 0 66 101 [.null, .int a1, .int a2] μ Q) ∧ (((a0).toInt = 42 → wm_Wp 0 66 168 [.null, .int a1, .int a2] μ Q) ∧ (((a0).toInt = 43 → wm_Wp 0 66 160 [.null, .int a1, .int a2] μ Q) ∧ (((a0).toInt = 45 → wm_Wp 0 66 164 [.null, .int a1, .int a2] μ Q) ∧ (((a0).toInt = 47 → wm_Wp 0 66 172 [.null, .int a1, .int a2] μ Q) ∧ (((a0).toInt = 60 → wm_Wp 0 66 132 [.null, .int a1, .int a2] μ Q) ∧ (((a0).toInt = 61 → wm_Wp 0 66 118 [.null, .int a1, .int a2] μ Q) ∧ (((a0).toInt = 62 → wm_Wp 0 66 146 [.null, .int a1, .int a2] μ Q) ∧ True))))))))))) : wm_Ok 0 66 [.int a0, .int a1, .int a2] μ Q := wm_ent (nL := 3) (l := [.int a0, .int a1, .int a2]) (by decide +kernel) (by decide +kernel) (by decide +kernel) rfl rfl (wm_vc mo_66 (rt := some .int) (by decide +kernel) mc_66 164 h)
-- WindBoat$Rules.together(III)I, the place 84
set_option maxRecDepth 100000 in
set_option maxHeartbeats 8000000 in
theorem w_66_84 (x1 : Int32) (x2 : Int32) (μ : wm_M) (Q : Option Value → wm_M → Prop) (h : ((x1 = (0 : Int32) → ((x2 = (0 : Int32) → wm_Wp 0 66 96 [.null, .null, .null] μ Q) ∧ (¬ x2 = (0 : Int32) → wm_Wp 0 66 92 [.null, .null, .null] μ Q))) ∧ (¬ x1 = (0 : Int32) → wm_Wp 0 66 92 [.null, .null, .null] μ Q))) : wm_Wp 0 66 84 [.null, .int x1, .int x2] μ Q := wm_vc mo_66 (rt := some .int) (by decide +kernel) mc_66 164 h
-- WindBoat$Rules.together(III)I, the place 92
set_option maxRecDepth 100000 in
set_option maxHeartbeats 8000000 in
theorem w_66_92 (μ : wm_M) (Q : Option Value → wm_M → Prop) (h : wm_OkI 0 177 [.int (1 : Int32)] μ (fun r2 μ1 => Q (some (.int r2)) μ1)) : wm_Wp 0 66 92 [.null, .null, .null] μ Q := wm_vc mo_66 (rt := some .int) (by decide +kernel) mc_66 164 h
-- WindBoat$Rules.together(III)I, the place 96
set_option maxRecDepth 100000 in
set_option maxHeartbeats 8000000 in
theorem w_66_96 (μ : wm_M) (Q : Option Value → wm_M → Prop) (h : wm_OkI 0 177 [.int (0 : Int32)] μ (fun r2 μ1 => Q (some (.int r2)) μ1)) : wm_Wp 0 66 96 [.null, .null, .null] μ Q := wm_vc mo_66 (rt := some .int) (by decide +kernel) mc_66 164 h
-- WindBoat$Rules.together(III)I, the place 101
set_option maxRecDepth 100000 in
set_option maxHeartbeats 8000000 in
theorem w_66_101 (x1 : Int32) (x2 : Int32) (μ : wm_M) (Q : Option Value → wm_M → Prop) (h : ((x1 = (0 : Int32) → wm_Wp 0 66 113 [.null, .null, .null] μ Q) ∧ (¬ x1 = (0 : Int32) → ((x2 = (0 : Int32) → wm_Wp 0 66 113 [.null, .null, .null] μ Q) ∧ (¬ x2 = (0 : Int32) → wm_OkI 0 177 [.int (1 : Int32)] μ (fun r2 μ1 => Q (some (.int r2)) μ1)))))) : wm_Wp 0 66 101 [.null, .int x1, .int x2] μ Q := wm_vc mo_66 (rt := some .int) (by decide +kernel) mc_66 164 h
-- WindBoat$Rules.together(III)I, the place 113
set_option maxRecDepth 100000 in
set_option maxHeartbeats 8000000 in
theorem w_66_113 (μ : wm_M) (Q : Option Value → wm_M → Prop) (h : wm_OkI 0 177 [.int (0 : Int32)] μ (fun r2 μ1 => Q (some (.int r2)) μ1)) : wm_Wp 0 66 113 [.null, .null, .null] μ Q := wm_vc mo_66 (rt := some .int) (by decide +kernel) mc_66 164 h
-- WindBoat$Rules.together(III)I, the place 118
set_option maxRecDepth 100000 in
set_option maxHeartbeats 8000000 in
theorem w_66_118 (x1 : Int32) (x2 : Int32) (μ : wm_M) (Q : Option Value → wm_M → Prop) (h : ((x1 = x2 → wm_OkI 0 177 [.int (1 : Int32)] μ (fun r2 μ1 => Q (some (.int r2)) μ1)) ∧ (¬ x1 = x2 → wm_Wp 0 66 127 [.null, .null, .null] μ Q))) : wm_Wp 0 66 118 [.null, .int x1, .int x2] μ Q := wm_vc mo_66 (rt := some .int) (by decide +kernel) mc_66 164 h
-- WindBoat$Rules.together(III)I, the place 127
set_option maxRecDepth 100000 in
set_option maxHeartbeats 8000000 in
theorem w_66_127 (μ : wm_M) (Q : Option Value → wm_M → Prop) (h : wm_OkI 0 177 [.int (0 : Int32)] μ (fun r2 μ1 => Q (some (.int r2)) μ1)) : wm_Wp 0 66 127 [.null, .null, .null] μ Q := wm_vc mo_66 (rt := some .int) (by decide +kernel) mc_66 164 h
-- WindBoat$Rules.together(III)I, the place 132
set_option maxRecDepth 100000 in
set_option maxHeartbeats 8000000 in
theorem w_66_132 (x1 : Int32) (x2 : Int32) (μ : wm_M) (Q : Option Value → wm_M → Prop) (h : ((x2 ≤ x1 → wm_Wp 0 66 141 [.null, .null, .null] μ Q) ∧ (¬ x2 ≤ x1 → wm_OkI 0 177 [.int (1 : Int32)] μ (fun r2 μ1 => Q (some (.int r2)) μ1)))) : wm_Wp 0 66 132 [.null, .int x1, .int x2] μ Q := wm_vc mo_66 (rt := some .int) (by decide +kernel) mc_66 164 h
-- WindBoat$Rules.together(III)I, the place 141
set_option maxRecDepth 100000 in
set_option maxHeartbeats 8000000 in
theorem w_66_141 (μ : wm_M) (Q : Option Value → wm_M → Prop) (h : wm_OkI 0 177 [.int (0 : Int32)] μ (fun r2 μ1 => Q (some (.int r2)) μ1)) : wm_Wp 0 66 141 [.null, .null, .null] μ Q := wm_vc mo_66 (rt := some .int) (by decide +kernel) mc_66 164 h
-- WindBoat$Rules.together(III)I, the place 146
set_option maxRecDepth 100000 in
set_option maxHeartbeats 8000000 in
theorem w_66_146 (x1 : Int32) (x2 : Int32) (μ : wm_M) (Q : Option Value → wm_M → Prop) (h : ((x1 ≤ x2 → wm_Wp 0 66 155 [.null, .null, .null] μ Q) ∧ (¬ x1 ≤ x2 → wm_OkI 0 177 [.int (1 : Int32)] μ (fun r2 μ1 => Q (some (.int r2)) μ1)))) : wm_Wp 0 66 146 [.null, .int x1, .int x2] μ Q := wm_vc mo_66 (rt := some .int) (by decide +kernel) mc_66 164 h
-- WindBoat$Rules.together(III)I, the place 155
set_option maxRecDepth 100000 in
set_option maxHeartbeats 8000000 in
theorem w_66_155 (μ : wm_M) (Q : Option Value → wm_M → Prop) (h : wm_OkI 0 177 [.int (0 : Int32)] μ (fun r2 μ1 => Q (some (.int r2)) μ1)) : wm_Wp 0 66 155 [.null, .null, .null] μ Q := wm_vc mo_66 (rt := some .int) (by decide +kernel) mc_66 164 h
-- WindBoat$Rules.together(III)I, the place 160
set_option maxRecDepth 100000 in
set_option maxHeartbeats 8000000 in
theorem w_66_160 (x1 : Int32) (x2 : Int32) (μ : wm_M) (Q : Option Value → wm_M → Prop) (h : Q (some (.int (x1 + x2))) μ) : wm_Wp 0 66 160 [.null, .int x1, .int x2] μ Q := wm_vc mo_66 (rt := some .int) (by decide +kernel) mc_66 164 h
-- WindBoat$Rules.together(III)I, the place 164
set_option maxRecDepth 100000 in
set_option maxHeartbeats 8000000 in
theorem w_66_164 (x1 : Int32) (x2 : Int32) (μ : wm_M) (Q : Option Value → wm_M → Prop) (h : Q (some (.int (x1 - x2))) μ) : wm_Wp 0 66 164 [.null, .int x1, .int x2] μ Q := wm_vc mo_66 (rt := some .int) (by decide +kernel) mc_66 164 h
-- WindBoat$Rules.together(III)I, the place 168
set_option maxRecDepth 100000 in
set_option maxHeartbeats 8000000 in
theorem w_66_168 (x1 : Int32) (x2 : Int32) (μ : wm_M) (Q : Option Value → wm_M → Prop) (h : Q (some (.int (x1 * x2))) μ) : wm_Wp 0 66 168 [.null, .int x1, .int x2] μ Q := wm_vc mo_66 (rt := some .int) (by decide +kernel) mc_66 164 h
-- WindBoat$Rules.together(III)I, the place 172
set_option maxRecDepth 100000 in
set_option maxHeartbeats 8000000 in
theorem w_66_172 (x1 : Int32) (x2 : Int32) (μ : wm_M) (Q : Option Value → wm_M → Prop) (h : ((x2 = (0 : Int32) → Q (some (.int (0 : Int32))) μ) ∧ (¬ x2 = (0 : Int32) → wm_Wp 0 66 180 [.null, .int x1, .int x2] μ Q))) : wm_Wp 0 66 172 [.null, .int x1, .int x2] μ Q := wm_vc mo_66 (rt := some .int) (by decide +kernel) mc_66 164 h
-- WindBoat$Rules.together(III)I, the place 180
set_option maxRecDepth 100000 in
set_option maxHeartbeats 8000000 in
theorem w_66_180 (x1 : Int32) (x2 : Int32) (μ : wm_M) (Q : Option Value → wm_M → Prop) (h : (¬ x2 = 0 ∧ Q (some (.int (x1 / x2))) μ)) : wm_Wp 0 66 180 [.null, .int x1, .int x2] μ Q := wm_vc mo_66 (rt := some .int) (by decide +kernel) mc_66 164 h
-- WindBoat$Rules.together(III)I, the place 184
set_option maxRecDepth 100000 in
set_option maxHeartbeats 8000000 in
theorem w_66_184 (x1 : Int32) (x2 : Int32) (μ : wm_M) (Q : Option Value → wm_M → Prop) (h : ((x2 = (0 : Int32) → Q (some (.int (0 : Int32))) μ) ∧ (¬ x2 = (0 : Int32) → wm_Wp 0 66 192 [.null, .int x1, .int x2] μ Q))) : wm_Wp 0 66 184 [.null, .int x1, .int x2] μ Q := wm_vc mo_66 (rt := some .int) (by decide +kernel) mc_66 164 h
-- WindBoat$Rules.together(III)I, the place 192
set_option maxRecDepth 100000 in
set_option maxHeartbeats 8000000 in
theorem w_66_192 (x1 : Int32) (x2 : Int32) (μ : wm_M) (Q : Option Value → wm_M → Prop) (h : (¬ x2 = 0 ∧ Q (some (.int (x1 - x1 / x2 * x2))) μ)) : wm_Wp 0 66 192 [.null, .int x1, .int x2] μ Q := wm_vc mo_66 (rt := some .int) (by decide +kernel) mc_66 164 h
-- WindBoat$Sea.take(LWindBoat$Sea;)V
set_option maxRecDepth 100000 in
set_option maxHeartbeats 8000000 in
theorem v_68b (μ : wm_M) (Q : Option Value → wm_M → Prop) (h : (¬ (0 : Int32) < 0 ∧ ¬ (0 : Int32) < 0 ∧ ¬ (36 : Int32) < 0 ∧ ((0 : Int32)).toNatClampNeg + ((36 : Int32)).toNatClampNeg ≤ 36 ∧ ((0 : Int32)).toNatClampNeg + ((36 : Int32)).toNatClampNeg ≤ 36 ∧ (∀ i, i < ((36 : Int32)).toNatClampNeg → μ.1 32 (((0 : Int32)).toNatClampNeg + i) = 0 ∨ μ.1 32 (((0 : Int32)).toNatClampNeg + i) = 1) ∧ ∀ μ1, μ1 = wm_sr μ 3 (va_cpy (μ.1 32) (μ.1 3) ((0 : Int32)).toNatClampNeg ((0 : Int32)).toNatClampNeg ((36 : Int32)).toNatClampNeg) → (¬ (0 : Int32) < 0 ∧ ¬ (0 : Int32) < 0 ∧ ¬ (36 : Int32) < 0 ∧ ((0 : Int32)).toNatClampNeg + ((36 : Int32)).toNatClampNeg ≤ 36 ∧ ((0 : Int32)).toNatClampNeg + ((36 : Int32)).toNatClampNeg ≤ 36 ∧ ∀ μ2, μ2 = wm_sr μ1 4 (va_cpy (μ1.1 33) (μ1.1 4) ((0 : Int32)).toNatClampNeg ((0 : Int32)).toNatClampNeg ((36 : Int32)).toNatClampNeg) → (¬ (0 : Int32) < 0 ∧ ¬ (0 : Int32) < 0 ∧ ¬ (84 : Int32) < 0 ∧ ((0 : Int32)).toNatClampNeg + ((84 : Int32)).toNatClampNeg ≤ 84 ∧ ((0 : Int32)).toNatClampNeg + ((84 : Int32)).toNatClampNeg ≤ 84 ∧ ∀ μ3, μ3 = wm_sr μ2 5 (va_cpy (μ2.1 34) (μ2.1 5) ((0 : Int32)).toNatClampNeg ((0 : Int32)).toNatClampNeg ((84 : Int32)).toNatClampNeg) → (¬ (0 : Int32) < 0 ∧ ¬ (0 : Int32) < 0 ∧ ¬ (84 : Int32) < 0 ∧ ((0 : Int32)).toNatClampNeg + ((84 : Int32)).toNatClampNeg ≤ 84 ∧ ((0 : Int32)).toNatClampNeg + ((84 : Int32)).toNatClampNeg ≤ 84 ∧ ∀ μ4, μ4 = wm_sr μ3 6 (va_cpy (μ3.1 35) (μ3.1 6) ((0 : Int32)).toNatClampNeg ((0 : Int32)).toNatClampNeg ((84 : Int32)).toNatClampNeg) → Q none (wm_si μ4 2 4 (μ4.1 31 4))))))) : wm_Ok 0 68 [.ref 2, .ref 31] μ Q := wm_ent (nL := 2) (l := [.ref 2, .ref 31]) (by decide +kernel) (by decide +kernel) (by decide +kernel) rfl rfl (wm_vc mo_68 (rt := none) (by decide +kernel) mc_68 94 h)
-- WindBoat$Sea.take(LWindBoat$Sea;)V
set_option maxRecDepth 100000 in
set_option maxHeartbeats 8000000 in
theorem v_68i (μ : wm_M) (Q : Option Value → wm_M → Prop) (h : (¬ (0 : Int32) < 0 ∧ ¬ (0 : Int32) < 0 ∧ ¬ (36 : Int32) < 0 ∧ ((0 : Int32)).toNatClampNeg + ((36 : Int32)).toNatClampNeg ≤ 36 ∧ ((0 : Int32)).toNatClampNeg + ((36 : Int32)).toNatClampNeg ≤ 36 ∧ (∀ i, i < ((36 : Int32)).toNatClampNeg → μ.1 3 (((0 : Int32)).toNatClampNeg + i) = 0 ∨ μ.1 3 (((0 : Int32)).toNatClampNeg + i) = 1) ∧ ∀ μ1, μ1 = wm_sr μ 32 (va_cpy (μ.1 3) (μ.1 32) ((0 : Int32)).toNatClampNeg ((0 : Int32)).toNatClampNeg ((36 : Int32)).toNatClampNeg) → (¬ (0 : Int32) < 0 ∧ ¬ (0 : Int32) < 0 ∧ ¬ (36 : Int32) < 0 ∧ ((0 : Int32)).toNatClampNeg + ((36 : Int32)).toNatClampNeg ≤ 36 ∧ ((0 : Int32)).toNatClampNeg + ((36 : Int32)).toNatClampNeg ≤ 36 ∧ ∀ μ2, μ2 = wm_sr μ1 33 (va_cpy (μ1.1 4) (μ1.1 33) ((0 : Int32)).toNatClampNeg ((0 : Int32)).toNatClampNeg ((36 : Int32)).toNatClampNeg) → (¬ (0 : Int32) < 0 ∧ ¬ (0 : Int32) < 0 ∧ ¬ (84 : Int32) < 0 ∧ ((0 : Int32)).toNatClampNeg + ((84 : Int32)).toNatClampNeg ≤ 84 ∧ ((0 : Int32)).toNatClampNeg + ((84 : Int32)).toNatClampNeg ≤ 84 ∧ ∀ μ3, μ3 = wm_sr μ2 34 (va_cpy (μ2.1 5) (μ2.1 34) ((0 : Int32)).toNatClampNeg ((0 : Int32)).toNatClampNeg ((84 : Int32)).toNatClampNeg) → (¬ (0 : Int32) < 0 ∧ ¬ (0 : Int32) < 0 ∧ ¬ (84 : Int32) < 0 ∧ ((0 : Int32)).toNatClampNeg + ((84 : Int32)).toNatClampNeg ≤ 84 ∧ ((0 : Int32)).toNatClampNeg + ((84 : Int32)).toNatClampNeg ≤ 84 ∧ ∀ μ4, μ4 = wm_sr μ3 35 (va_cpy (μ3.1 6) (μ3.1 35) ((0 : Int32)).toNatClampNeg ((0 : Int32)).toNatClampNeg ((84 : Int32)).toNatClampNeg) → Q none (wm_si μ4 31 4 (μ4.1 2 4))))))) : wm_Ok 0 68 [.ref 31, .ref 2] μ Q := wm_ent (nL := 2) (l := [.ref 31, .ref 2]) (by decide +kernel) (by decide +kernel) (by decide +kernel) rfl rfl (wm_vc mo_68 (rt := none) (by decide +kernel) mc_68 94 h)
-- WindBoat$Sea.isTold(II)Z
set_option maxRecDepth 100000 in
set_option maxHeartbeats 8000000 in
theorem v_69 (a1 : Int32) (a2 : Int32) (μ : wm_M) (Q : Option Value → wm_M → Prop) (h : (vp_in ((a1 * (12 : Int32)) + a2) 84 ∧ (((μ.1 6 (((a1 * (12 : Int32)) + a2)).toNatClampNeg) = (-1 : Int32) → wm_Wp 0 69 19 [.null, .null, .null] μ Q) ∧ (¬ (μ.1 6 (((a1 * (12 : Int32)) + a2)).toNatClampNeg) = (-1 : Int32) → (((1 : Int32) = 0 ∨ (1 : Int32) = 1) ∧ Q (some (.int (1 : Int32))) μ))))) : wm_Ok 0 69 [.ref 2, .int a1, .int a2] μ Q := wm_ent (nL := 3) (l := [.ref 2, .int a1, .int a2]) (by decide +kernel) (by decide +kernel) (by decide +kernel) rfl rfl (wm_vc mo_69 (rt := some .boolean) (by decide +kernel) mc_69 48 h)
-- WindBoat$Sea.isTold(II)Z, the place 19
set_option maxRecDepth 100000 in
set_option maxHeartbeats 8000000 in
theorem w_69_19 (μ : wm_M) (Q : Option Value → wm_M → Prop) (h : (((0 : Int32) = 0 ∨ (0 : Int32) = 1) ∧ Q (some (.int (0 : Int32))) μ)) : wm_Wp 0 69 19 [.null, .null, .null] μ Q := wm_vc mo_69 (rt := some .boolean) (by decide +kernel) mc_69 48 h
-- WindBoat$Sea.lastTold(II)I
set_option maxRecDepth 100000 in
set_option maxHeartbeats 8000000 in
theorem v_70 (a1 : Int32) (a2 : Int32) (μ : wm_M) (Q : Option Value → wm_M → Prop) (h : wm_Wp 0 70 2 [.ref 2, .int a1, .null, .int a2] μ Q) : wm_Ok 0 70 [.ref 2, .int a1, .int a2] μ Q := wm_ent (nL := 4) (l := [.ref 2, .int a1, .int a2, .null]) (by decide +kernel) (by decide +kernel) (by decide +kernel) rfl rfl (wm_vc mo_70 (rt := some .int) (by decide +kernel) mc_70 58 h)
-- WindBoat$Sea.lastTold(II)I, the place 2
set_option maxRecDepth 100000 in
set_option maxHeartbeats 8000000 in
theorem w_70_2 (x1 : Int32) (x3 : Int32) (μ : wm_M) (Q : Option Value → wm_M → Prop) (h : ((x3 < (0 : Int32) → wm_Wp 0 70 28 [.null, .null, .null, .null] μ Q) ∧ (¬ x3 < (0 : Int32) → wm_OkI 0 69 [.ref 2, .int x1, .int x3] μ (fun r2 μ1 => ((r2 = (0 : Int32) → wm_Wp 0 70 22 [.ref 2, .int x1, .null, .int x3] μ1 Q) ∧ (¬ r2 = (0 : Int32) → Q (some (.int ((x1 * (12 : Int32)) + x3))) μ1)))))) : wm_Wp 0 70 2 [.ref 2, .int x1, .null, .int x3] μ Q := wm_vc mo_70 (rt := some .int) (by decide +kernel) mc_70 58 h
-- WindBoat$Sea.lastTold(II)I, the place 22
set_option maxRecDepth 100000 in
set_option maxHeartbeats 8000000 in
theorem w_70_22 (x1 : Int32) (x3 : Int32) (μ : wm_M) (Q : Option Value → wm_M → Prop) (h : wm_Wp 0 70 2 [.ref 2, .int x1, .null, .int (x3 + (-1 : Int32))] μ Q) : wm_Wp 0 70 22 [.ref 2, .int x1, .null, .int x3] μ Q := wm_vc mo_70 (rt := some .int) (by decide +kernel) mc_70 58 h
-- WindBoat$Sea.lastTold(II)I, the place 28
set_option maxRecDepth 100000 in
set_option maxHeartbeats 8000000 in
theorem w_70_28 (μ : wm_M) (Q : Option Value → wm_M → Prop) (h : Q (some (.int (-1 : Int32))) μ) : wm_Wp 0 70 28 [.null, .null, .null, .null] μ Q := wm_vc mo_70 (rt := some .int) (by decide +kernel) mc_70 58 h
-- WindBoat$Sea.fromIn(II)I
set_option maxRecDepth 100000 in
set_option maxHeartbeats 8000000 in
theorem v_71 (a1 : Int32) (a2 : Int32) (μ : wm_M) (Q : Option Value → wm_M → Prop) (h : wm_OkI 0 70 [.ref 2, .int a1, .int a2] μ (fun r2 μ1 => ((r2 = (-1 : Int32) → Q (some (.int (0 : Int32))) μ1) ∧ (¬ r2 = (-1 : Int32) → wm_Wp 0 71 16 [.ref 2, .null, .null, .int r2] μ1 Q)))) : wm_Ok 0 71 [.ref 2, .int a1, .int a2] μ Q := wm_ent (nL := 4) (l := [.ref 2, .int a1, .int a2, .null]) (by decide +kernel) (by decide +kernel) (by decide +kernel) rfl rfl (wm_vc mo_71 (rt := some .int) (by decide +kernel) mc_71 50 h)
-- WindBoat$Sea.fromIn(II)I, the place 16
set_option maxRecDepth 100000 in
set_option maxHeartbeats 8000000 in
theorem w_71_16 (x3 : Int32) (μ : wm_M) (Q : Option Value → wm_M → Prop) (h : (vp_in x3 84 ∧ Q (some (.int (μ.1 5 (x3).toNatClampNeg))) μ)) : wm_Wp 0 71 16 [.ref 2, .null, .null, .int x3] μ Q := wm_vc mo_71 (rt := some .int) (by decide +kernel) mc_71 50 h
-- WindBoat$Sea.forceIn(II)I
set_option maxRecDepth 100000 in
set_option maxHeartbeats 8000000 in
theorem v_72 (a1 : Int32) (a2 : Int32) (μ : wm_M) (Q : Option Value → wm_M → Prop) (h : wm_OkI 0 70 [.ref 2, .int a1, .int a2] μ (fun r2 μ1 => ((r2 = (-1 : Int32) → Q (some (.int (0 : Int32))) μ1) ∧ (¬ r2 = (-1 : Int32) → wm_Wp 0 72 16 [.ref 2, .null, .null, .int r2] μ1 Q)))) : wm_Ok 0 72 [.ref 2, .int a1, .int a2] μ Q := wm_ent (nL := 4) (l := [.ref 2, .int a1, .int a2, .null]) (by decide +kernel) (by decide +kernel) (by decide +kernel) rfl rfl (wm_vc mo_72 (rt := some .int) (by decide +kernel) mc_72 50 h)
-- WindBoat$Sea.forceIn(II)I, the place 16
set_option maxRecDepth 100000 in
set_option maxHeartbeats 8000000 in
theorem w_72_16 (x3 : Int32) (μ : wm_M) (Q : Option Value → wm_M → Prop) (h : (vp_in x3 84 ∧ Q (some (.int (μ.1 6 (x3).toNatClampNeg))) μ)) : wm_Wp 0 72 16 [.ref 2, .null, .null, .int x3] μ Q := wm_vc mo_72 (rt := some .int) (by decide +kernel) mc_72 50 h
-- WindBoat$Sea.forceAt(III)I
set_option maxRecDepth 100000 in
set_option maxHeartbeats 8000000 in
theorem v_73 (a1 : Int32) (a2 : Int32) (a3 : Int32) (μ : wm_M) (Q : Option Value → wm_M → Prop) (h : wm_OkI 0 72 [.ref 2, .int a1, .int a2] μ (fun r2 μ1 => wm_OkI 0 74 [.ref 2, .int r2, .int a3] μ1 (fun r4 μ3 => Q (some (.int r4)) μ3))) : wm_Ok 0 73 [.ref 2, .int a1, .int a2, .int a3] μ Q := wm_ent (nL := 4) (l := [.ref 2, .int a1, .int a2, .int a3]) (by decide +kernel) (by decide +kernel) (by decide +kernel) rfl rfl (wm_vc mo_73 (rt := some .int) (by decide +kernel) mc_73 36 h)
-- WindBoat$Sea.sheltered(II)I
set_option maxRecDepth 100000 in
set_option maxHeartbeats 8000000 in
theorem v_74 (a1 : Int32) (a2 : Int32) (μ : wm_M) (Q : Option Value → wm_M → Prop) (h : (vp_in a2 36 ∧ (¬ (100 : Int32) = 0 ∧ Q (some (.int ((a1 * ((100 : Int32) - (μ.1 4 (a2).toNatClampNeg))) / (100 : Int32)))) μ))) : wm_Ok 0 74 [.ref 2, .int a1, .int a2] μ Q := wm_ent (nL := 3) (l := [.ref 2, .int a1, .int a2]) (by decide +kernel) (by decide +kernel) (by decide +kernel) rfl rfl (wm_vc mo_74 (rt := some .int) (by decide +kernel) mc_74 42 h)
-- WindBoat$Sea.toldHoursOf(I)I
set_option maxRecDepth 100000 in
set_option maxHeartbeats 8000000 in
theorem v_75 (a1 : Int32) (μ : wm_M) (Q : Option Value → wm_M → Prop) (h : wm_Wp 0 75 4 [.ref 2, .int a1, .int (0 : Int32), .int (0 : Int32)] μ Q) : wm_Ok 0 75 [.ref 2, .int a1] μ Q := wm_ent (nL := 4) (l := [.ref 2, .int a1, .null, .null]) (by decide +kernel) (by decide +kernel) (by decide +kernel) rfl rfl (wm_vc mo_75 (rt := some .int) (by decide +kernel) mc_75 58 h)
-- WindBoat$Sea.toldHoursOf(I)I, the place 4
set_option maxRecDepth 100000 in
set_option maxHeartbeats 8000000 in
theorem w_75_4 (x1 : Int32) (x2 : Int32) (x3 : Int32) (μ : wm_M) (Q : Option Value → wm_M → Prop) (h : (((12 : Int32) ≤ x3 → wm_Wp 0 75 28 [.null, .null, .int x2, .null] μ Q) ∧ (¬ (12 : Int32) ≤ x3 → wm_OkI 0 69 [.ref 2, .int x1, .int x3] μ (fun r2 μ1 => wm_OkI 0 177 [.int r2] μ1 (fun r4 μ3 => wm_Wp 0 75 4 [.ref 2, .int x1, .int (x2 + r4), .int (x3 + (1 : Int32))] μ3 Q))))) : wm_Wp 0 75 4 [.ref 2, .int x1, .int x2, .int x3] μ Q := wm_vc mo_75 (rt := some .int) (by decide +kernel) mc_75 58 h
-- WindBoat$Sea.toldHoursOf(I)I, the place 28
set_option maxRecDepth 100000 in
set_option maxHeartbeats 8000000 in
theorem w_75_28 (x2 : Int32) (μ : wm_M) (Q : Option Value → wm_M → Prop) (h : Q (some (.int x2)) μ) : wm_Wp 0 75 28 [.null, .null, .int x2, .null] μ Q := wm_vc mo_75 (rt := some .int) (by decide +kernel) mc_75 58 h
-- WindBoat$Sea.isToldWorld(I)Z
set_option maxRecDepth 100000 in
set_option maxHeartbeats 8000000 in
theorem v_76 (a1 : Int32) (μ : wm_M) (Q : Option Value → wm_M → Prop) (h : wm_OkI 0 75 [.ref 2, .int a1] μ (fun r2 μ1 => ((r2 ≤ (0 : Int32) → wm_Wp 0 76 12 [.null, .null] μ1 Q) ∧ (¬ r2 ≤ (0 : Int32) → (((1 : Int32) = 0 ∨ (1 : Int32) = 1) ∧ Q (some (.int (1 : Int32))) μ1))))) : wm_Ok 0 76 [.ref 2, .int a1] μ Q := wm_ent (nL := 2) (l := [.ref 2, .int a1]) (by decide +kernel) (by decide +kernel) (by decide +kernel) rfl rfl (wm_vc mo_76 (rt := some .boolean) (by decide +kernel) mc_76 36 h)
-- WindBoat$Sea.isToldWorld(I)Z, the place 12
set_option maxRecDepth 100000 in
set_option maxHeartbeats 8000000 in
theorem w_76_12 (μ : wm_M) (Q : Option Value → wm_M → Prop) (h : (((0 : Int32) = 0 ∨ (0 : Int32) = 1) ∧ Q (some (.int (0 : Int32))) μ)) : wm_Wp 0 76 12 [.null, .null] μ Q := wm_vc mo_76 (rt := some .boolean) (by decide +kernel) mc_76 36 h
-- WindBoat$Sea.toldHours()I
set_option maxRecDepth 100000 in
set_option maxHeartbeats 8000000 in
theorem v_77 (μ : wm_M) (Q : Option Value → wm_M → Prop) (h : wm_Wp 0 77 4 [.ref 2, .int (0 : Int32), .int (0 : Int32)] μ Q) : wm_Ok 0 77 [.ref 2] μ Q := wm_ent (nL := 3) (l := [.ref 2, .null, .null]) (by decide +kernel) (by decide +kernel) (by decide +kernel) rfl rfl (wm_vc mo_77 (rt := some .int) (by decide +kernel) mc_77 54 h)
-- WindBoat$Sea.toldHours()I, the place 4
set_option maxRecDepth 100000 in
set_option maxHeartbeats 8000000 in
theorem w_77_4 (x1 : Int32) (x2 : Int32) (μ : wm_M) (Q : Option Value → wm_M → Prop) (h : (((7 : Int32) ≤ x2 → wm_Wp 0 77 24 [.null, .int x1, .null] μ Q) ∧ (¬ (7 : Int32) ≤ x2 → wm_OkI 0 75 [.ref 2, .int x2] μ (fun r2 μ1 => wm_Wp 0 77 4 [.ref 2, .int (x1 + r2), .int (x2 + (1 : Int32))] μ1 Q)))) : wm_Wp 0 77 4 [.ref 2, .int x1, .int x2] μ Q := wm_vc mo_77 (rt := some .int) (by decide +kernel) mc_77 54 h
-- WindBoat$Sea.toldHours()I, the place 24
set_option maxRecDepth 100000 in
set_option maxHeartbeats 8000000 in
theorem w_77_24 (x1 : Int32) (μ : wm_M) (Q : Option Value → wm_M → Prop) (h : Q (some (.int x1)) μ) : wm_Wp 0 77 24 [.null, .int x1, .null] μ Q := wm_vc mo_77 (rt := some .int) (by decide +kernel) mc_77 54 h
-- WindBoat$Sea.toldWorlds()I
set_option maxRecDepth 100000 in
set_option maxHeartbeats 8000000 in
theorem v_78 (μ : wm_M) (Q : Option Value → wm_M → Prop) (h : wm_Wp 0 78 4 [.ref 2, .int (0 : Int32), .int (0 : Int32)] μ Q) : wm_Ok 0 78 [.ref 2] μ Q := wm_ent (nL := 3) (l := [.ref 2, .null, .null]) (by decide +kernel) (by decide +kernel) (by decide +kernel) rfl rfl (wm_vc mo_78 (rt := some .int) (by decide +kernel) mc_78 56 h)
-- WindBoat$Sea.toldWorlds()I, the place 4
set_option maxRecDepth 100000 in
set_option maxHeartbeats 8000000 in
theorem w_78_4 (x1 : Int32) (x2 : Int32) (μ : wm_M) (Q : Option Value → wm_M → Prop) (h : (((6 : Int32) ≤ x2 → wm_Wp 0 78 27 [.null, .int x1, .null] μ Q) ∧ (¬ (6 : Int32) ≤ x2 → wm_OkI 0 76 [.ref 2, .int x2] μ (fun r2 μ1 => wm_OkI 0 177 [.int r2] μ1 (fun r4 μ3 => wm_Wp 0 78 4 [.ref 2, .int (x1 + r4), .int (x2 + (1 : Int32))] μ3 Q))))) : wm_Wp 0 78 4 [.ref 2, .int x1, .int x2] μ Q := wm_vc mo_78 (rt := some .int) (by decide +kernel) mc_78 56 h
-- WindBoat$Sea.toldWorlds()I, the place 27
set_option maxRecDepth 100000 in
set_option maxHeartbeats 8000000 in
theorem w_78_27 (x1 : Int32) (μ : wm_M) (Q : Option Value → wm_M → Prop) (h : Q (some (.int x1)) μ) : wm_Wp 0 78 27 [.null, .int x1, .null] μ Q := wm_vc mo_78 (rt := some .int) (by decide +kernel) mc_78 56 h
-- WindBoat$Sea.landCells()I
set_option maxRecDepth 100000 in
set_option maxHeartbeats 8000000 in
theorem v_79 (μ : wm_M) (Q : Option Value → wm_M → Prop) (h : wm_Wp 0 79 4 [.ref 2, .int (0 : Int32), .int (0 : Int32)] μ Q) : wm_Ok 0 79 [.ref 2] μ Q := wm_ent (nL := 3) (l := [.ref 2, .null, .null]) (by decide +kernel) (by decide +kernel) (by decide +kernel) rfl rfl (wm_vc mo_79 (rt := some .int) (by decide +kernel) mc_79 58 h)
-- WindBoat$Sea.landCells()I, the place 4
set_option maxRecDepth 100000 in
set_option maxHeartbeats 8000000 in
theorem w_79_4 (x1 : Int32) (x2 : Int32) (μ : wm_M) (Q : Option Value → wm_M → Prop) (h : (((36 : Int32) ≤ x2 → wm_Wp 0 79 28 [.null, .int x1, .null] μ Q) ∧ (¬ (36 : Int32) ≤ x2 → (vp_in x2 36 ∧ wm_OkI 0 177 [.int (μ.1 3 (x2).toNatClampNeg)] μ (fun r2 μ1 => wm_Wp 0 79 4 [.ref 2, .int (x1 + r2), .int (x2 + (1 : Int32))] μ1 Q))))) : wm_Wp 0 79 4 [.ref 2, .int x1, .int x2] μ Q := wm_vc mo_79 (rt := some .int) (by decide +kernel) mc_79 58 h
-- WindBoat$Sea.landCells()I, the place 28
set_option maxRecDepth 100000 in
set_option maxHeartbeats 8000000 in
theorem w_79_28 (x1 : Int32) (μ : wm_M) (Q : Option Value → wm_M → Prop) (h : Q (some (.int x1)) μ) : wm_Wp 0 79 28 [.null, .int x1, .null] μ Q := wm_vc mo_79 (rt := some .int) (by decide +kernel) mc_79 58 h
-- WindBoat$Sea.hitsOf(I)I
set_option maxRecDepth 100000 in
set_option maxHeartbeats 8000000 in
theorem v_80 (a1 : Int32) (μ : wm_M) (Q : Option Value → wm_M → Prop) (h : wm_Wp 0 80 4 [.ref 2, .int a1, .int (0 : Int32), .int (0 : Int32), .null, .null] μ Q) : wm_Ok 0 80 [.ref 2, .int a1] μ Q := wm_ent (nL := 6) (l := [.ref 2, .int a1, .null, .null, .null, .null]) (by decide +kernel) (by decide +kernel) (by decide +kernel) rfl rfl (wm_vc mo_80 (rt := some .int) (by decide +kernel) mc_80 130 h)
-- WindBoat$Sea.hitsOf(I)I, the place 4
set_option maxRecDepth 100000 in
set_option maxHeartbeats 8000000 in
theorem w_80_4 (x1 : Int32) (x2 : Int32) (x3 : Int32) (μ : wm_M) (Q : Option Value → wm_M → Prop) (h : (((12 : Int32) ≤ x3 → wm_Wp 0 80 95 [.null, .null, .int x2, .null, .null, .null] μ Q) ∧ (¬ (12 : Int32) ≤ x3 → wm_OkI 0 69 [.ref 2, .int x1, .int x3] μ (fun r2 μ1 => ((r2 = (0 : Int32) → wm_Wp 0 80 89 [.ref 2, .int x1, .int x2, .int x3, .null, .null] μ1 Q) ∧ (¬ r2 = (0 : Int32) → wm_OkI 0 69 [.ref 2, .int (6 : Int32), .int x3] μ1 (fun r4 μ3 => ((r4 = (0 : Int32) → wm_Wp 0 80 89 [.ref 2, .int x1, .int x2, .int x3, .null, .null] μ3 Q) ∧ (¬ r4 = (0 : Int32) → (vp_in ((x1 * (12 : Int32)) + x3) 84 ∧ (vp_in ((72 : Int32) + x3) 84 ∧ wm_OkI 0 181 [.int (μ3.1 5 (((x1 * (12 : Int32)) + x3)).toNatClampNeg), .int (μ3.1 5 (((72 : Int32) + x3)).toNatClampNeg)] μ3 (fun r6 μ5 => (((1 : Int32) < r6 → wm_Wp 0 80 89 [.ref 2, .int x1, .int x2, .int x3, .null, .null] μ5 Q) ∧ (¬ (1 : Int32) < r6 → (vp_in ((x1 * (12 : Int32)) + x3) 84 ∧ (vp_in ((72 : Int32) + x3) 84 ∧ (((4 : Int32) < (if 0 ≤ ((μ5.1 6 (((x1 * (12 : Int32)) + x3)).toNatClampNeg) - (μ5.1 6 (((72 : Int32) + x3)).toNatClampNeg)) then ((μ5.1 6 (((x1 * (12 : Int32)) + x3)).toNatClampNeg) - (μ5.1 6 (((72 : Int32) + x3)).toNatClampNeg)) else 0 - ((μ5.1 6 (((x1 * (12 : Int32)) + x3)).toNatClampNeg) - (μ5.1 6 (((72 : Int32) + x3)).toNatClampNeg))) → wm_Wp 0 80 89 [.ref 2, .int x1, .int x2, .int x3, .null, .null] μ5 Q) ∧ (¬ (4 : Int32) < (if 0 ≤ ((μ5.1 6 (((x1 * (12 : Int32)) + x3)).toNatClampNeg) - (μ5.1 6 (((72 : Int32) + x3)).toNatClampNeg)) then ((μ5.1 6 (((x1 * (12 : Int32)) + x3)).toNatClampNeg) - (μ5.1 6 (((72 : Int32) + x3)).toNatClampNeg)) else 0 - ((μ5.1 6 (((x1 * (12 : Int32)) + x3)).toNatClampNeg) - (μ5.1 6 (((72 : Int32) + x3)).toNatClampNeg))) → wm_Wp 0 80 89 [.ref 2, .int x1, .int (x2 + (1 : Int32)), .int x3, .null, .null] μ5 Q)))))))))))))))))) : wm_Wp 0 80 4 [.ref 2, .int x1, .int x2, .int x3, .null, .null] μ Q := wm_vc mo_80 (rt := some .int) (by decide +kernel) mc_80 130 h
-- WindBoat$Sea.hitsOf(I)I, the place 89
set_option maxRecDepth 100000 in
set_option maxHeartbeats 8000000 in
theorem w_80_89 (x1 : Int32) (x2 : Int32) (x3 : Int32) (μ : wm_M) (Q : Option Value → wm_M → Prop) (h : wm_Wp 0 80 4 [.ref 2, .int x1, .int x2, .int (x3 + (1 : Int32)), .null, .null] μ Q) : wm_Wp 0 80 89 [.ref 2, .int x1, .int x2, .int x3, .null, .null] μ Q := wm_vc mo_80 (rt := some .int) (by decide +kernel) mc_80 130 h
-- WindBoat$Sea.hitsOf(I)I, the place 95
set_option maxRecDepth 100000 in
set_option maxHeartbeats 8000000 in
theorem w_80_95 (x2 : Int32) (μ : wm_M) (Q : Option Value → wm_M → Prop) (h : Q (some (.int x2)) μ) : wm_Wp 0 80 95 [.null, .null, .int x2, .null, .null, .null] μ Q := wm_vc mo_80 (rt := some .int) (by decide +kernel) mc_80 130 h
-- WindBoat$Sea.weightOf(I)I
set_option maxRecDepth 100000 in
set_option maxHeartbeats 8000000 in
theorem v_81 (a1 : Int32) (μ : wm_M) (Q : Option Value → wm_M → Prop) (h : (¬ (2 : Int32) = 0 ∧ wm_OkI 0 80 [.ref 2, .int ((a1 / (2 : Int32)) * (2 : Int32))] μ (fun r2 μ1 => wm_OkI 0 80 [.ref 2, .int (((a1 / (2 : Int32)) * (2 : Int32)) + (1 : Int32))] μ1 (fun r4 μ3 => Q (some (.int (((1 : Int32) + r2) + r4))) μ3)))) : wm_Ok 0 81 [.ref 2, .int a1] μ Q := wm_ent (nL := 3) (l := [.ref 2, .int a1, .null]) (by decide +kernel) (by decide +kernel) (by decide +kernel) rfl rfl (wm_vc mo_81 (rt := some .int) (by decide +kernel) mc_81 56 h)
-- WindBoat$Speeds.take(LWindBoat$Speeds;)V
set_option maxRecDepth 100000 in
set_option maxHeartbeats 8000000 in
theorem v_83b (μ : wm_M) (Q : Option Value → wm_M → Prop) (h : (¬ (0 : Int32) < 0 ∧ ¬ (0 : Int32) < 0 ∧ ¬ (25 : Int32) < 0 ∧ ((0 : Int32)).toNatClampNeg + ((25 : Int32)).toNatClampNeg ≤ 25 ∧ ((0 : Int32)).toNatClampNeg + ((25 : Int32)).toNatClampNeg ≤ 25 ∧ ∀ μ1, μ1 = wm_sr μ 8 (va_cpy (μ.1 37) (μ.1 8) ((0 : Int32)).toNatClampNeg ((0 : Int32)).toNatClampNeg ((25 : Int32)).toNatClampNeg) → (¬ (0 : Int32) < 0 ∧ ¬ (0 : Int32) < 0 ∧ ¬ (25 : Int32) < 0 ∧ ((0 : Int32)).toNatClampNeg + ((25 : Int32)).toNatClampNeg ≤ 25 ∧ ((0 : Int32)).toNatClampNeg + ((25 : Int32)).toNatClampNeg ≤ 25 ∧ ∀ μ2, μ2 = wm_sr μ1 9 (va_cpy (μ1.1 38) (μ1.1 9) ((0 : Int32)).toNatClampNeg ((0 : Int32)).toNatClampNeg ((25 : Int32)).toNatClampNeg) → (¬ (0 : Int32) < 0 ∧ ¬ (0 : Int32) < 0 ∧ ¬ (25 : Int32) < 0 ∧ ((0 : Int32)).toNatClampNeg + ((25 : Int32)).toNatClampNeg ≤ 25 ∧ ((0 : Int32)).toNatClampNeg + ((25 : Int32)).toNatClampNeg ≤ 25 ∧ ∀ μ3, μ3 = wm_sr μ2 10 (va_cpy (μ2.1 39) (μ2.1 10) ((0 : Int32)).toNatClampNeg ((0 : Int32)).toNatClampNeg ((25 : Int32)).toNatClampNeg) → (¬ (0 : Int32) < 0 ∧ ¬ (0 : Int32) < 0 ∧ ¬ (25 : Int32) < 0 ∧ ((0 : Int32)).toNatClampNeg + ((25 : Int32)).toNatClampNeg ≤ 25 ∧ ((0 : Int32)).toNatClampNeg + ((25 : Int32)).toNatClampNeg ≤ 25 ∧ ∀ μ4, μ4 = wm_sr μ3 11 (va_cpy (μ3.1 40) (μ3.1 11) ((0 : Int32)).toNatClampNeg ((0 : Int32)).toNatClampNeg ((25 : Int32)).toNatClampNeg) → (¬ (0 : Int32) < 0 ∧ ¬ (0 : Int32) < 0 ∧ ¬ (25 : Int32) < 0 ∧ ((0 : Int32)).toNatClampNeg + ((25 : Int32)).toNatClampNeg ≤ 25 ∧ ((0 : Int32)).toNatClampNeg + ((25 : Int32)).toNatClampNeg ≤ 25 ∧ ∀ μ5, μ5 = wm_sr μ4 12 (va_cpy (μ4.1 41) (μ4.1 12) ((0 : Int32)).toNatClampNeg ((0 : Int32)).toNatClampNeg ((25 : Int32)).toNatClampNeg) → Q none μ5)))))) : wm_Ok 0 83 [.ref 7, .ref 36] μ Q := wm_ent (nL := 2) (l := [.ref 7, .ref 36]) (by decide +kernel) (by decide +kernel) (by decide +kernel) rfl rfl (wm_vc mo_83 (rt := none) (by decide +kernel) mc_83 102 h)
-- WindBoat$Speeds.take(LWindBoat$Speeds;)V
set_option maxRecDepth 100000 in
set_option maxHeartbeats 8000000 in
theorem v_83i (μ : wm_M) (Q : Option Value → wm_M → Prop) (h : (¬ (0 : Int32) < 0 ∧ ¬ (0 : Int32) < 0 ∧ ¬ (25 : Int32) < 0 ∧ ((0 : Int32)).toNatClampNeg + ((25 : Int32)).toNatClampNeg ≤ 25 ∧ ((0 : Int32)).toNatClampNeg + ((25 : Int32)).toNatClampNeg ≤ 25 ∧ ∀ μ1, μ1 = wm_sr μ 37 (va_cpy (μ.1 8) (μ.1 37) ((0 : Int32)).toNatClampNeg ((0 : Int32)).toNatClampNeg ((25 : Int32)).toNatClampNeg) → (¬ (0 : Int32) < 0 ∧ ¬ (0 : Int32) < 0 ∧ ¬ (25 : Int32) < 0 ∧ ((0 : Int32)).toNatClampNeg + ((25 : Int32)).toNatClampNeg ≤ 25 ∧ ((0 : Int32)).toNatClampNeg + ((25 : Int32)).toNatClampNeg ≤ 25 ∧ ∀ μ2, μ2 = wm_sr μ1 38 (va_cpy (μ1.1 9) (μ1.1 38) ((0 : Int32)).toNatClampNeg ((0 : Int32)).toNatClampNeg ((25 : Int32)).toNatClampNeg) → (¬ (0 : Int32) < 0 ∧ ¬ (0 : Int32) < 0 ∧ ¬ (25 : Int32) < 0 ∧ ((0 : Int32)).toNatClampNeg + ((25 : Int32)).toNatClampNeg ≤ 25 ∧ ((0 : Int32)).toNatClampNeg + ((25 : Int32)).toNatClampNeg ≤ 25 ∧ ∀ μ3, μ3 = wm_sr μ2 39 (va_cpy (μ2.1 10) (μ2.1 39) ((0 : Int32)).toNatClampNeg ((0 : Int32)).toNatClampNeg ((25 : Int32)).toNatClampNeg) → (¬ (0 : Int32) < 0 ∧ ¬ (0 : Int32) < 0 ∧ ¬ (25 : Int32) < 0 ∧ ((0 : Int32)).toNatClampNeg + ((25 : Int32)).toNatClampNeg ≤ 25 ∧ ((0 : Int32)).toNatClampNeg + ((25 : Int32)).toNatClampNeg ≤ 25 ∧ ∀ μ4, μ4 = wm_sr μ3 40 (va_cpy (μ3.1 11) (μ3.1 40) ((0 : Int32)).toNatClampNeg ((0 : Int32)).toNatClampNeg ((25 : Int32)).toNatClampNeg) → (¬ (0 : Int32) < 0 ∧ ¬ (0 : Int32) < 0 ∧ ¬ (25 : Int32) < 0 ∧ ((0 : Int32)).toNatClampNeg + ((25 : Int32)).toNatClampNeg ≤ 25 ∧ ((0 : Int32)).toNatClampNeg + ((25 : Int32)).toNatClampNeg ≤ 25 ∧ ∀ μ5, μ5 = wm_sr μ4 41 (va_cpy (μ4.1 12) (μ4.1 41) ((0 : Int32)).toNatClampNeg ((0 : Int32)).toNatClampNeg ((25 : Int32)).toNatClampNeg) → Q none μ5)))))) : wm_Ok 0 83 [.ref 36, .ref 7] μ Q := wm_ent (nL := 2) (l := [.ref 36, .ref 7]) (by decide +kernel) (by decide +kernel) (by decide +kernel) rfl rfl (wm_vc mo_83 (rt := none) (by decide +kernel) mc_83 102 h)
-- WindBoat$Speeds.see(II)I
set_option maxRecDepth 100000 in
set_option maxHeartbeats 8000000 in
theorem v_84 (a1 : Int32) (a2 : Int32) (μ : wm_M) (Q : Option Value → wm_M → Prop) (h : (vp_in a1 25 ∧ (((μ.1 9 (a1).toNatClampNeg) = (0 : Int32) → (((1 : Int32) = (0 : Int32) → (vp_in a1 25 ∧ (vp_in a1 25 ∧ (((1 : Int32) = (0 : Int32) → (vp_in a1 25 ∧ (vp_in a1 25 ∧ (vp_in a1 25 ∧ (vp_in a1 25 ∧ (vp_in a1 25 ∧ (vp_in a1 25 ∧ (vp_in a1 25 ∧ Q (some (.int ((wm_si (wm_si (wm_si (wm_si μ 11 (a1).toNatClampNeg (if a2 < (μ.1 11 (a1).toNatClampNeg) then a2 else (μ.1 11 (a1).toNatClampNeg))) 12 (a1).toNatClampNeg (if ((wm_si μ 11 (a1).toNatClampNeg (if a2 < (μ.1 11 (a1).toNatClampNeg) then a2 else (μ.1 11 (a1).toNatClampNeg))).1 12 (a1).toNatClampNeg) < a2 then a2 else ((wm_si μ 11 (a1).toNatClampNeg (if a2 < (μ.1 11 (a1).toNatClampNeg) then a2 else (μ.1 11 (a1).toNatClampNeg))).1 12 (a1).toNatClampNeg))) 10 (a1).toNatClampNeg (((wm_si (wm_si μ 11 (a1).toNatClampNeg (if a2 < (μ.1 11 (a1).toNatClampNeg) then a2 else (μ.1 11 (a1).toNatClampNeg))) 12 (a1).toNatClampNeg (if ((wm_si μ 11 (a1).toNatClampNeg (if a2 < (μ.1 11 (a1).toNatClampNeg) then a2 else (μ.1 11 (a1).toNatClampNeg))).1 12 (a1).toNatClampNeg) < a2 then a2 else ((wm_si μ 11 (a1).toNatClampNeg (if a2 < (μ.1 11 (a1).toNatClampNeg) then a2 else (μ.1 11 (a1).toNatClampNeg))).1 12 (a1).toNatClampNeg))).1 10 (a1).toNatClampNeg) + a2)) 9 (a1).toNatClampNeg (((wm_si (wm_si (wm_si μ 11 (a1).toNatClampNeg (if a2 < (μ.1 11 (a1).toNatClampNeg) then a2 else (μ.1 11 (a1).toNatClampNeg))) 12 (a1).toNatClampNeg (if ((wm_si μ 11 (a1).toNatClampNeg (if a2 < (μ.1 11 (a1).toNatClampNeg) then a2 else (μ.1 11 (a1).toNatClampNeg))).1 12 (a1).toNatClampNeg) < a2 then a2 else ((wm_si μ 11 (a1).toNatClampNeg (if a2 < (μ.1 11 (a1).toNatClampNeg) then a2 else (μ.1 11 (a1).toNatClampNeg))).1 12 (a1).toNatClampNeg))) 10 (a1).toNatClampNeg (((wm_si (wm_si μ 11 (a1).toNatClampNeg (if a2 < (μ.1 11 (a1).toNatClampNeg) then a2 else (μ.1 11 (a1).toNatClampNeg))) 12 (a1).toNatClampNeg (if ((wm_si μ 11 (a1).toNatClampNeg (if a2 < (μ.1 11 (a1).toNatClampNeg) then a2 else (μ.1 11 (a1).toNatClampNeg))).1 12 (a1).toNatClampNeg) < a2 then a2 else ((wm_si μ 11 (a1).toNatClampNeg (if a2 < (μ.1 11 (a1).toNatClampNeg) then a2 else (μ.1 11 (a1).toNatClampNeg))).1 12 (a1).toNatClampNeg))).1 10 (a1).toNatClampNeg) + a2)).1 9 (a1).toNatClampNeg) + (1 : Int32))).1 9 (a1).toNatClampNeg))) (wm_si (wm_si (wm_si (wm_si μ 11 (a1).toNatClampNeg (if a2 < (μ.1 11 (a1).toNatClampNeg) then a2 else (μ.1 11 (a1).toNatClampNeg))) 12 (a1).toNatClampNeg (if ((wm_si μ 11 (a1).toNatClampNeg (if a2 < (μ.1 11 (a1).toNatClampNeg) then a2 else (μ.1 11 (a1).toNatClampNeg))).1 12 (a1).toNatClampNeg) < a2 then a2 else ((wm_si μ 11 (a1).toNatClampNeg (if a2 < (μ.1 11 (a1).toNatClampNeg) then a2 else (μ.1 11 (a1).toNatClampNeg))).1 12 (a1).toNatClampNeg))) 10 (a1).toNatClampNeg (((wm_si (wm_si μ 11 (a1).toNatClampNeg (if a2 < (μ.1 11 (a1).toNatClampNeg) then a2 else (μ.1 11 (a1).toNatClampNeg))) 12 (a1).toNatClampNeg (if ((wm_si μ 11 (a1).toNatClampNeg (if a2 < (μ.1 11 (a1).toNatClampNeg) then a2 else (μ.1 11 (a1).toNatClampNeg))).1 12 (a1).toNatClampNeg) < a2 then a2 else ((wm_si μ 11 (a1).toNatClampNeg (if a2 < (μ.1 11 (a1).toNatClampNeg) then a2 else (μ.1 11 (a1).toNatClampNeg))).1 12 (a1).toNatClampNeg))).1 10 (a1).toNatClampNeg) + a2)) 9 (a1).toNatClampNeg (((wm_si (wm_si (wm_si μ 11 (a1).toNatClampNeg (if a2 < (μ.1 11 (a1).toNatClampNeg) then a2 else (μ.1 11 (a1).toNatClampNeg))) 12 (a1).toNatClampNeg (if ((wm_si μ 11 (a1).toNatClampNeg (if a2 < (μ.1 11 (a1).toNatClampNeg) then a2 else (μ.1 11 (a1).toNatClampNeg))).1 12 (a1).toNatClampNeg) < a2 then a2 else ((wm_si μ 11 (a1).toNatClampNeg (if a2 < (μ.1 11 (a1).toNatClampNeg) then a2 else (μ.1 11 (a1).toNatClampNeg))).1 12 (a1).toNatClampNeg))) 10 (a1).toNatClampNeg (((wm_si (wm_si μ 11 (a1).toNatClampNeg (if a2 < (μ.1 11 (a1).toNatClampNeg) then a2 else (μ.1 11 (a1).toNatClampNeg))) 12 (a1).toNatClampNeg (if ((wm_si μ 11 (a1).toNatClampNeg (if a2 < (μ.1 11 (a1).toNatClampNeg) then a2 else (μ.1 11 (a1).toNatClampNeg))).1 12 (a1).toNatClampNeg) < a2 then a2 else ((wm_si μ 11 (a1).toNatClampNeg (if a2 < (μ.1 11 (a1).toNatClampNeg) then a2 else (μ.1 11 (a1).toNatClampNeg))).1 12 (a1).toNatClampNeg))).1 10 (a1).toNatClampNeg) + a2)).1 9 (a1).toNatClampNeg) + (1 : Int32))))))))))) ∧ (¬ (1 : Int32) = (0 : Int32) → (vp_in a1 25 ∧ (vp_in a1 25 ∧ (vp_in a1 25 ∧ (vp_in a1 25 ∧ (vp_in a1 25 ∧ (vp_in a1 25 ∧ Q (some (.int ((wm_si (wm_si (wm_si (wm_si μ 11 (a1).toNatClampNeg (if a2 < (μ.1 11 (a1).toNatClampNeg) then a2 else (μ.1 11 (a1).toNatClampNeg))) 12 (a1).toNatClampNeg a2) 10 (a1).toNatClampNeg (((wm_si (wm_si μ 11 (a1).toNatClampNeg (if a2 < (μ.1 11 (a1).toNatClampNeg) then a2 else (μ.1 11 (a1).toNatClampNeg))) 12 (a1).toNatClampNeg a2).1 10 (a1).toNatClampNeg) + a2)) 9 (a1).toNatClampNeg (((wm_si (wm_si (wm_si μ 11 (a1).toNatClampNeg (if a2 < (μ.1 11 (a1).toNatClampNeg) then a2 else (μ.1 11 (a1).toNatClampNeg))) 12 (a1).toNatClampNeg a2) 10 (a1).toNatClampNeg (((wm_si (wm_si μ 11 (a1).toNatClampNeg (if a2 < (μ.1 11 (a1).toNatClampNeg) then a2 else (μ.1 11 (a1).toNatClampNeg))) 12 (a1).toNatClampNeg a2).1 10 (a1).toNatClampNeg) + a2)).1 9 (a1).toNatClampNeg) + (1 : Int32))).1 9 (a1).toNatClampNeg))) (wm_si (wm_si (wm_si (wm_si μ 11 (a1).toNatClampNeg (if a2 < (μ.1 11 (a1).toNatClampNeg) then a2 else (μ.1 11 (a1).toNatClampNeg))) 12 (a1).toNatClampNeg a2) 10 (a1).toNatClampNeg (((wm_si (wm_si μ 11 (a1).toNatClampNeg (if a2 < (μ.1 11 (a1).toNatClampNeg) then a2 else (μ.1 11 (a1).toNatClampNeg))) 12 (a1).toNatClampNeg a2).1 10 (a1).toNatClampNeg) + a2)) 9 (a1).toNatClampNeg (((wm_si (wm_si (wm_si μ 11 (a1).toNatClampNeg (if a2 < (μ.1 11 (a1).toNatClampNeg) then a2 else (μ.1 11 (a1).toNatClampNeg))) 12 (a1).toNatClampNeg a2) 10 (a1).toNatClampNeg (((wm_si (wm_si μ 11 (a1).toNatClampNeg (if a2 < (μ.1 11 (a1).toNatClampNeg) then a2 else (μ.1 11 (a1).toNatClampNeg))) 12 (a1).toNatClampNeg a2).1 10 (a1).toNatClampNeg) + a2)).1 9 (a1).toNatClampNeg) + (1 : Int32)))))))))))))) ∧ (¬ (1 : Int32) = (0 : Int32) → (vp_in a1 25 ∧ (((1 : Int32) = (0 : Int32) → (vp_in a1 25 ∧ (vp_in a1 25 ∧ (vp_in a1 25 ∧ (vp_in a1 25 ∧ (vp_in a1 25 ∧ (vp_in a1 25 ∧ (vp_in a1 25 ∧ Q (some (.int ((wm_si (wm_si (wm_si (wm_si μ 11 (a1).toNatClampNeg a2) 12 (a1).toNatClampNeg (if ((wm_si μ 11 (a1).toNatClampNeg a2).1 12 (a1).toNatClampNeg) < a2 then a2 else ((wm_si μ 11 (a1).toNatClampNeg a2).1 12 (a1).toNatClampNeg))) 10 (a1).toNatClampNeg (((wm_si (wm_si μ 11 (a1).toNatClampNeg a2) 12 (a1).toNatClampNeg (if ((wm_si μ 11 (a1).toNatClampNeg a2).1 12 (a1).toNatClampNeg) < a2 then a2 else ((wm_si μ 11 (a1).toNatClampNeg a2).1 12 (a1).toNatClampNeg))).1 10 (a1).toNatClampNeg) + a2)) 9 (a1).toNatClampNeg (((wm_si (wm_si (wm_si μ 11 (a1).toNatClampNeg a2) 12 (a1).toNatClampNeg (if ((wm_si μ 11 (a1).toNatClampNeg a2).1 12 (a1).toNatClampNeg) < a2 then a2 else ((wm_si μ 11 (a1).toNatClampNeg a2).1 12 (a1).toNatClampNeg))) 10 (a1).toNatClampNeg (((wm_si (wm_si μ 11 (a1).toNatClampNeg a2) 12 (a1).toNatClampNeg (if ((wm_si μ 11 (a1).toNatClampNeg a2).1 12 (a1).toNatClampNeg) < a2 then a2 else ((wm_si μ 11 (a1).toNatClampNeg a2).1 12 (a1).toNatClampNeg))).1 10 (a1).toNatClampNeg) + a2)).1 9 (a1).toNatClampNeg) + (1 : Int32))).1 9 (a1).toNatClampNeg))) (wm_si (wm_si (wm_si (wm_si μ 11 (a1).toNatClampNeg a2) 12 (a1).toNatClampNeg (if ((wm_si μ 11 (a1).toNatClampNeg a2).1 12 (a1).toNatClampNeg) < a2 then a2 else ((wm_si μ 11 (a1).toNatClampNeg a2).1 12 (a1).toNatClampNeg))) 10 (a1).toNatClampNeg (((wm_si (wm_si μ 11 (a1).toNatClampNeg a2) 12 (a1).toNatClampNeg (if ((wm_si μ 11 (a1).toNatClampNeg a2).1 12 (a1).toNatClampNeg) < a2 then a2 else ((wm_si μ 11 (a1).toNatClampNeg a2).1 12 (a1).toNatClampNeg))).1 10 (a1).toNatClampNeg) + a2)) 9 (a1).toNatClampNeg (((wm_si (wm_si (wm_si μ 11 (a1).toNatClampNeg a2) 12 (a1).toNatClampNeg (if ((wm_si μ 11 (a1).toNatClampNeg a2).1 12 (a1).toNatClampNeg) < a2 then a2 else ((wm_si μ 11 (a1).toNatClampNeg a2).1 12 (a1).toNatClampNeg))) 10 (a1).toNatClampNeg (((wm_si (wm_si μ 11 (a1).toNatClampNeg a2) 12 (a1).toNatClampNeg (if ((wm_si μ 11 (a1).toNatClampNeg a2).1 12 (a1).toNatClampNeg) < a2 then a2 else ((wm_si μ 11 (a1).toNatClampNeg a2).1 12 (a1).toNatClampNeg))).1 10 (a1).toNatClampNeg) + a2)).1 9 (a1).toNatClampNeg) + (1 : Int32))))))))))) ∧ (¬ (1 : Int32) = (0 : Int32) → (vp_in a1 25 ∧ (vp_in a1 25 ∧ (vp_in a1 25 ∧ (vp_in a1 25 ∧ (vp_in a1 25 ∧ (vp_in a1 25 ∧ Q (some (.int ((wm_si (wm_si (wm_si (wm_si μ 11 (a1).toNatClampNeg a2) 12 (a1).toNatClampNeg a2) 10 (a1).toNatClampNeg (((wm_si (wm_si μ 11 (a1).toNatClampNeg a2) 12 (a1).toNatClampNeg a2).1 10 (a1).toNatClampNeg) + a2)) 9 (a1).toNatClampNeg (((wm_si (wm_si (wm_si μ 11 (a1).toNatClampNeg a2) 12 (a1).toNatClampNeg a2) 10 (a1).toNatClampNeg (((wm_si (wm_si μ 11 (a1).toNatClampNeg a2) 12 (a1).toNatClampNeg a2).1 10 (a1).toNatClampNeg) + a2)).1 9 (a1).toNatClampNeg) + (1 : Int32))).1 9 (a1).toNatClampNeg))) (wm_si (wm_si (wm_si (wm_si μ 11 (a1).toNatClampNeg a2) 12 (a1).toNatClampNeg a2) 10 (a1).toNatClampNeg (((wm_si (wm_si μ 11 (a1).toNatClampNeg a2) 12 (a1).toNatClampNeg a2).1 10 (a1).toNatClampNeg) + a2)) 9 (a1).toNatClampNeg (((wm_si (wm_si (wm_si μ 11 (a1).toNatClampNeg a2) 12 (a1).toNatClampNeg a2) 10 (a1).toNatClampNeg (((wm_si (wm_si μ 11 (a1).toNatClampNeg a2) 12 (a1).toNatClampNeg a2).1 10 (a1).toNatClampNeg) + a2)).1 9 (a1).toNatClampNeg) + (1 : Int32))))))))))))))) ∧ (¬ (μ.1 9 (a1).toNatClampNeg) = (0 : Int32) → wm_Wp 0 84 13 [.ref 7, .int a1, .int a2, .null] μ Q)))) : wm_Ok 0 84 [.ref 7, .int a1, .int a2] μ Q := wm_ent (nL := 4) (l := [.ref 7, .int a1, .int a2, .null]) (by decide +kernel) (by decide +kernel) (by decide +kernel) rfl rfl (wm_vc mo_84 (rt := some .int) (by decide +kernel) mc_84 136 h)
-- WindBoat$Speeds.see(II)I, the place 13
set_option maxRecDepth 100000 in
set_option maxHeartbeats 8000000 in
theorem w_84_13 (x1 : Int32) (x2 : Int32) (μ : wm_M) (Q : Option Value → wm_M → Prop) (h : (((0 : Int32) = (0 : Int32) → (vp_in x1 25 ∧ (vp_in x1 25 ∧ (((0 : Int32) = (0 : Int32) → (vp_in x1 25 ∧ (vp_in x1 25 ∧ (vp_in x1 25 ∧ (vp_in x1 25 ∧ (vp_in x1 25 ∧ (vp_in x1 25 ∧ (vp_in x1 25 ∧ Q (some (.int ((wm_si (wm_si (wm_si (wm_si μ 11 (x1).toNatClampNeg (if x2 < (μ.1 11 (x1).toNatClampNeg) then x2 else (μ.1 11 (x1).toNatClampNeg))) 12 (x1).toNatClampNeg (if ((wm_si μ 11 (x1).toNatClampNeg (if x2 < (μ.1 11 (x1).toNatClampNeg) then x2 else (μ.1 11 (x1).toNatClampNeg))).1 12 (x1).toNatClampNeg) < x2 then x2 else ((wm_si μ 11 (x1).toNatClampNeg (if x2 < (μ.1 11 (x1).toNatClampNeg) then x2 else (μ.1 11 (x1).toNatClampNeg))).1 12 (x1).toNatClampNeg))) 10 (x1).toNatClampNeg (((wm_si (wm_si μ 11 (x1).toNatClampNeg (if x2 < (μ.1 11 (x1).toNatClampNeg) then x2 else (μ.1 11 (x1).toNatClampNeg))) 12 (x1).toNatClampNeg (if ((wm_si μ 11 (x1).toNatClampNeg (if x2 < (μ.1 11 (x1).toNatClampNeg) then x2 else (μ.1 11 (x1).toNatClampNeg))).1 12 (x1).toNatClampNeg) < x2 then x2 else ((wm_si μ 11 (x1).toNatClampNeg (if x2 < (μ.1 11 (x1).toNatClampNeg) then x2 else (μ.1 11 (x1).toNatClampNeg))).1 12 (x1).toNatClampNeg))).1 10 (x1).toNatClampNeg) + x2)) 9 (x1).toNatClampNeg (((wm_si (wm_si (wm_si μ 11 (x1).toNatClampNeg (if x2 < (μ.1 11 (x1).toNatClampNeg) then x2 else (μ.1 11 (x1).toNatClampNeg))) 12 (x1).toNatClampNeg (if ((wm_si μ 11 (x1).toNatClampNeg (if x2 < (μ.1 11 (x1).toNatClampNeg) then x2 else (μ.1 11 (x1).toNatClampNeg))).1 12 (x1).toNatClampNeg) < x2 then x2 else ((wm_si μ 11 (x1).toNatClampNeg (if x2 < (μ.1 11 (x1).toNatClampNeg) then x2 else (μ.1 11 (x1).toNatClampNeg))).1 12 (x1).toNatClampNeg))) 10 (x1).toNatClampNeg (((wm_si (wm_si μ 11 (x1).toNatClampNeg (if x2 < (μ.1 11 (x1).toNatClampNeg) then x2 else (μ.1 11 (x1).toNatClampNeg))) 12 (x1).toNatClampNeg (if ((wm_si μ 11 (x1).toNatClampNeg (if x2 < (μ.1 11 (x1).toNatClampNeg) then x2 else (μ.1 11 (x1).toNatClampNeg))).1 12 (x1).toNatClampNeg) < x2 then x2 else ((wm_si μ 11 (x1).toNatClampNeg (if x2 < (μ.1 11 (x1).toNatClampNeg) then x2 else (μ.1 11 (x1).toNatClampNeg))).1 12 (x1).toNatClampNeg))).1 10 (x1).toNatClampNeg) + x2)).1 9 (x1).toNatClampNeg) + (1 : Int32))).1 9 (x1).toNatClampNeg))) (wm_si (wm_si (wm_si (wm_si μ 11 (x1).toNatClampNeg (if x2 < (μ.1 11 (x1).toNatClampNeg) then x2 else (μ.1 11 (x1).toNatClampNeg))) 12 (x1).toNatClampNeg (if ((wm_si μ 11 (x1).toNatClampNeg (if x2 < (μ.1 11 (x1).toNatClampNeg) then x2 else (μ.1 11 (x1).toNatClampNeg))).1 12 (x1).toNatClampNeg) < x2 then x2 else ((wm_si μ 11 (x1).toNatClampNeg (if x2 < (μ.1 11 (x1).toNatClampNeg) then x2 else (μ.1 11 (x1).toNatClampNeg))).1 12 (x1).toNatClampNeg))) 10 (x1).toNatClampNeg (((wm_si (wm_si μ 11 (x1).toNatClampNeg (if x2 < (μ.1 11 (x1).toNatClampNeg) then x2 else (μ.1 11 (x1).toNatClampNeg))) 12 (x1).toNatClampNeg (if ((wm_si μ 11 (x1).toNatClampNeg (if x2 < (μ.1 11 (x1).toNatClampNeg) then x2 else (μ.1 11 (x1).toNatClampNeg))).1 12 (x1).toNatClampNeg) < x2 then x2 else ((wm_si μ 11 (x1).toNatClampNeg (if x2 < (μ.1 11 (x1).toNatClampNeg) then x2 else (μ.1 11 (x1).toNatClampNeg))).1 12 (x1).toNatClampNeg))).1 10 (x1).toNatClampNeg) + x2)) 9 (x1).toNatClampNeg (((wm_si (wm_si (wm_si μ 11 (x1).toNatClampNeg (if x2 < (μ.1 11 (x1).toNatClampNeg) then x2 else (μ.1 11 (x1).toNatClampNeg))) 12 (x1).toNatClampNeg (if ((wm_si μ 11 (x1).toNatClampNeg (if x2 < (μ.1 11 (x1).toNatClampNeg) then x2 else (μ.1 11 (x1).toNatClampNeg))).1 12 (x1).toNatClampNeg) < x2 then x2 else ((wm_si μ 11 (x1).toNatClampNeg (if x2 < (μ.1 11 (x1).toNatClampNeg) then x2 else (μ.1 11 (x1).toNatClampNeg))).1 12 (x1).toNatClampNeg))) 10 (x1).toNatClampNeg (((wm_si (wm_si μ 11 (x1).toNatClampNeg (if x2 < (μ.1 11 (x1).toNatClampNeg) then x2 else (μ.1 11 (x1).toNatClampNeg))) 12 (x1).toNatClampNeg (if ((wm_si μ 11 (x1).toNatClampNeg (if x2 < (μ.1 11 (x1).toNatClampNeg) then x2 else (μ.1 11 (x1).toNatClampNeg))).1 12 (x1).toNatClampNeg) < x2 then x2 else ((wm_si μ 11 (x1).toNatClampNeg (if x2 < (μ.1 11 (x1).toNatClampNeg) then x2 else (μ.1 11 (x1).toNatClampNeg))).1 12 (x1).toNatClampNeg))).1 10 (x1).toNatClampNeg) + x2)).1 9 (x1).toNatClampNeg) + (1 : Int32))))))))))) ∧ (¬ (0 : Int32) = (0 : Int32) → (vp_in x1 25 ∧ (vp_in x1 25 ∧ (vp_in x1 25 ∧ (vp_in x1 25 ∧ (vp_in x1 25 ∧ (vp_in x1 25 ∧ Q (some (.int ((wm_si (wm_si (wm_si (wm_si μ 11 (x1).toNatClampNeg (if x2 < (μ.1 11 (x1).toNatClampNeg) then x2 else (μ.1 11 (x1).toNatClampNeg))) 12 (x1).toNatClampNeg x2) 10 (x1).toNatClampNeg (((wm_si (wm_si μ 11 (x1).toNatClampNeg (if x2 < (μ.1 11 (x1).toNatClampNeg) then x2 else (μ.1 11 (x1).toNatClampNeg))) 12 (x1).toNatClampNeg x2).1 10 (x1).toNatClampNeg) + x2)) 9 (x1).toNatClampNeg (((wm_si (wm_si (wm_si μ 11 (x1).toNatClampNeg (if x2 < (μ.1 11 (x1).toNatClampNeg) then x2 else (μ.1 11 (x1).toNatClampNeg))) 12 (x1).toNatClampNeg x2) 10 (x1).toNatClampNeg (((wm_si (wm_si μ 11 (x1).toNatClampNeg (if x2 < (μ.1 11 (x1).toNatClampNeg) then x2 else (μ.1 11 (x1).toNatClampNeg))) 12 (x1).toNatClampNeg x2).1 10 (x1).toNatClampNeg) + x2)).1 9 (x1).toNatClampNeg) + (1 : Int32))).1 9 (x1).toNatClampNeg))) (wm_si (wm_si (wm_si (wm_si μ 11 (x1).toNatClampNeg (if x2 < (μ.1 11 (x1).toNatClampNeg) then x2 else (μ.1 11 (x1).toNatClampNeg))) 12 (x1).toNatClampNeg x2) 10 (x1).toNatClampNeg (((wm_si (wm_si μ 11 (x1).toNatClampNeg (if x2 < (μ.1 11 (x1).toNatClampNeg) then x2 else (μ.1 11 (x1).toNatClampNeg))) 12 (x1).toNatClampNeg x2).1 10 (x1).toNatClampNeg) + x2)) 9 (x1).toNatClampNeg (((wm_si (wm_si (wm_si μ 11 (x1).toNatClampNeg (if x2 < (μ.1 11 (x1).toNatClampNeg) then x2 else (μ.1 11 (x1).toNatClampNeg))) 12 (x1).toNatClampNeg x2) 10 (x1).toNatClampNeg (((wm_si (wm_si μ 11 (x1).toNatClampNeg (if x2 < (μ.1 11 (x1).toNatClampNeg) then x2 else (μ.1 11 (x1).toNatClampNeg))) 12 (x1).toNatClampNeg x2).1 10 (x1).toNatClampNeg) + x2)).1 9 (x1).toNatClampNeg) + (1 : Int32)))))))))))))) ∧ (¬ (0 : Int32) = (0 : Int32) → (vp_in x1 25 ∧ (((0 : Int32) = (0 : Int32) → (vp_in x1 25 ∧ (vp_in x1 25 ∧ (vp_in x1 25 ∧ (vp_in x1 25 ∧ (vp_in x1 25 ∧ (vp_in x1 25 ∧ (vp_in x1 25 ∧ Q (some (.int ((wm_si (wm_si (wm_si (wm_si μ 11 (x1).toNatClampNeg x2) 12 (x1).toNatClampNeg (if ((wm_si μ 11 (x1).toNatClampNeg x2).1 12 (x1).toNatClampNeg) < x2 then x2 else ((wm_si μ 11 (x1).toNatClampNeg x2).1 12 (x1).toNatClampNeg))) 10 (x1).toNatClampNeg (((wm_si (wm_si μ 11 (x1).toNatClampNeg x2) 12 (x1).toNatClampNeg (if ((wm_si μ 11 (x1).toNatClampNeg x2).1 12 (x1).toNatClampNeg) < x2 then x2 else ((wm_si μ 11 (x1).toNatClampNeg x2).1 12 (x1).toNatClampNeg))).1 10 (x1).toNatClampNeg) + x2)) 9 (x1).toNatClampNeg (((wm_si (wm_si (wm_si μ 11 (x1).toNatClampNeg x2) 12 (x1).toNatClampNeg (if ((wm_si μ 11 (x1).toNatClampNeg x2).1 12 (x1).toNatClampNeg) < x2 then x2 else ((wm_si μ 11 (x1).toNatClampNeg x2).1 12 (x1).toNatClampNeg))) 10 (x1).toNatClampNeg (((wm_si (wm_si μ 11 (x1).toNatClampNeg x2) 12 (x1).toNatClampNeg (if ((wm_si μ 11 (x1).toNatClampNeg x2).1 12 (x1).toNatClampNeg) < x2 then x2 else ((wm_si μ 11 (x1).toNatClampNeg x2).1 12 (x1).toNatClampNeg))).1 10 (x1).toNatClampNeg) + x2)).1 9 (x1).toNatClampNeg) + (1 : Int32))).1 9 (x1).toNatClampNeg))) (wm_si (wm_si (wm_si (wm_si μ 11 (x1).toNatClampNeg x2) 12 (x1).toNatClampNeg (if ((wm_si μ 11 (x1).toNatClampNeg x2).1 12 (x1).toNatClampNeg) < x2 then x2 else ((wm_si μ 11 (x1).toNatClampNeg x2).1 12 (x1).toNatClampNeg))) 10 (x1).toNatClampNeg (((wm_si (wm_si μ 11 (x1).toNatClampNeg x2) 12 (x1).toNatClampNeg (if ((wm_si μ 11 (x1).toNatClampNeg x2).1 12 (x1).toNatClampNeg) < x2 then x2 else ((wm_si μ 11 (x1).toNatClampNeg x2).1 12 (x1).toNatClampNeg))).1 10 (x1).toNatClampNeg) + x2)) 9 (x1).toNatClampNeg (((wm_si (wm_si (wm_si μ 11 (x1).toNatClampNeg x2) 12 (x1).toNatClampNeg (if ((wm_si μ 11 (x1).toNatClampNeg x2).1 12 (x1).toNatClampNeg) < x2 then x2 else ((wm_si μ 11 (x1).toNatClampNeg x2).1 12 (x1).toNatClampNeg))) 10 (x1).toNatClampNeg (((wm_si (wm_si μ 11 (x1).toNatClampNeg x2) 12 (x1).toNatClampNeg (if ((wm_si μ 11 (x1).toNatClampNeg x2).1 12 (x1).toNatClampNeg) < x2 then x2 else ((wm_si μ 11 (x1).toNatClampNeg x2).1 12 (x1).toNatClampNeg))).1 10 (x1).toNatClampNeg) + x2)).1 9 (x1).toNatClampNeg) + (1 : Int32))))))))))) ∧ (¬ (0 : Int32) = (0 : Int32) → (vp_in x1 25 ∧ (vp_in x1 25 ∧ (vp_in x1 25 ∧ (vp_in x1 25 ∧ (vp_in x1 25 ∧ (vp_in x1 25 ∧ Q (some (.int ((wm_si (wm_si (wm_si (wm_si μ 11 (x1).toNatClampNeg x2) 12 (x1).toNatClampNeg x2) 10 (x1).toNatClampNeg (((wm_si (wm_si μ 11 (x1).toNatClampNeg x2) 12 (x1).toNatClampNeg x2).1 10 (x1).toNatClampNeg) + x2)) 9 (x1).toNatClampNeg (((wm_si (wm_si (wm_si μ 11 (x1).toNatClampNeg x2) 12 (x1).toNatClampNeg x2) 10 (x1).toNatClampNeg (((wm_si (wm_si μ 11 (x1).toNatClampNeg x2) 12 (x1).toNatClampNeg x2).1 10 (x1).toNatClampNeg) + x2)).1 9 (x1).toNatClampNeg) + (1 : Int32))).1 9 (x1).toNatClampNeg))) (wm_si (wm_si (wm_si (wm_si μ 11 (x1).toNatClampNeg x2) 12 (x1).toNatClampNeg x2) 10 (x1).toNatClampNeg (((wm_si (wm_si μ 11 (x1).toNatClampNeg x2) 12 (x1).toNatClampNeg x2).1 10 (x1).toNatClampNeg) + x2)) 9 (x1).toNatClampNeg (((wm_si (wm_si (wm_si μ 11 (x1).toNatClampNeg x2) 12 (x1).toNatClampNeg x2) 10 (x1).toNatClampNeg (((wm_si (wm_si μ 11 (x1).toNatClampNeg x2) 12 (x1).toNatClampNeg x2).1 10 (x1).toNatClampNeg) + x2)).1 9 (x1).toNatClampNeg) + (1 : Int32))))))))))))))) : wm_Wp 0 84 13 [.ref 7, .int x1, .int x2, .null] μ Q := wm_vc mo_84 (rt := some .int) (by decide +kernel) mc_84 136 h
-- WindBoat$Speeds.by(II)I
set_option maxRecDepth 100000 in
set_option maxHeartbeats 8000000 in
theorem v_85 (a1 : Int32) (a2 : Int32) (μ : wm_M) (Q : Option Value → wm_M → Prop) (h : ((a1 = (1 : Int32) → (vp_in a2 25 ∧ (((μ.1 9 (a2).toNatClampNeg) < (3 : Int32) → wm_Wp 0 85 29 [.ref 7, .null, .int a2] μ Q) ∧ (¬ (μ.1 9 (a2).toNatClampNeg) < (3 : Int32) → (vp_in a2 25 ∧ (vp_in a2 25 ∧ (¬ (μ.1 9 (a2).toNatClampNeg) = 0 ∧ Q (some (.int ((μ.1 10 (a2).toNatClampNeg) / (μ.1 9 (a2).toNatClampNeg)))) μ))))))) ∧ (¬ a1 = (1 : Int32) → wm_Wp 0 85 29 [.ref 7, .null, .int a2] μ Q))) : wm_Ok 0 85 [.ref 7, .int a1, .int a2] μ Q := wm_ent (nL := 3) (l := [.ref 7, .int a1, .int a2]) (by decide +kernel) (by decide +kernel) (by decide +kernel) rfl rfl (wm_vc mo_85 (rt := some .int) (by decide +kernel) mc_85 68 h)
-- WindBoat$Speeds.by(II)I, the place 29
set_option maxRecDepth 100000 in
set_option maxHeartbeats 8000000 in
theorem w_85_29 (x2 : Int32) (μ : wm_M) (Q : Option Value → wm_M → Prop) (h : (vp_in x2 25 ∧ Q (some (.int (μ.1 8 (x2).toNatClampNeg))) μ)) : wm_Wp 0 85 29 [.ref 7, .null, .int x2] μ Q := wm_vc mo_85 (rt := some .int) (by decide +kernel) mc_85 68 h
-- WindBoat$Speeds.rowsOfAll()I
set_option maxRecDepth 100000 in
set_option maxHeartbeats 8000000 in
theorem v_86 (μ : wm_M) (Q : Option Value → wm_M → Prop) (h : wm_Wp 0 86 4 [.ref 7, .int (0 : Int32), .int (0 : Int32)] μ Q) : wm_Ok 0 86 [.ref 7] μ Q := wm_ent (nL := 3) (l := [.ref 7, .null, .null]) (by decide +kernel) (by decide +kernel) (by decide +kernel) rfl rfl (wm_vc mo_86 (rt := some .int) (by decide +kernel) mc_86 56 h)
-- WindBoat$Speeds.rowsOfAll()I, the place 4
set_option maxRecDepth 100000 in
set_option maxHeartbeats 8000000 in
theorem w_86_4 (x1 : Int32) (x2 : Int32) (μ : wm_M) (Q : Option Value → wm_M → Prop) (h : (((25 : Int32) ≤ x2 → wm_Wp 0 86 25 [.null, .int x1, .null] μ Q) ∧ (¬ (25 : Int32) ≤ x2 → (vp_in x2 25 ∧ wm_Wp 0 86 4 [.ref 7, .int (x1 + (μ.1 9 (x2).toNatClampNeg)), .int (x2 + (1 : Int32))] μ Q)))) : wm_Wp 0 86 4 [.ref 7, .int x1, .int x2] μ Q := wm_vc mo_86 (rt := some .int) (by decide +kernel) mc_86 56 h
-- WindBoat$Speeds.rowsOfAll()I, the place 25
set_option maxRecDepth 100000 in
set_option maxHeartbeats 8000000 in
theorem w_86_25 (x1 : Int32) (μ : wm_M) (Q : Option Value → wm_M → Prop) (h : Q (some (.int x1)) μ) : wm_Wp 0 86 25 [.null, .int x1, .null] μ Q := wm_vc mo_86 (rt := some .int) (by decide +kernel) mc_86 56 h
-- WindBoat$Tape.put(I)V
set_option maxRecDepth 100000 in
set_option maxHeartbeats 8000000 in
theorem v_88 (a1 : Int32) (μ : wm_M) (Q : Option Value → wm_M → Prop) (h : (vp_in (μ.1 59 1) 120 ∧ Q none (wm_si (wm_si μ 60 ((μ.1 59 1)).toNatClampNeg a1) 59 1 (((wm_si μ 60 ((μ.1 59 1)).toNatClampNeg a1).1 59 1) + (1 : Int32))))) : wm_Ok 0 88 [.ref 59, .int a1] μ Q := wm_ent (nL := 2) (l := [.ref 59, .int a1]) (by decide +kernel) (by decide +kernel) (by decide +kernel) rfl rfl (wm_vc mo_88 (rt := none) (by decide +kernel) mc_88 46 h)
-- WindBoat$Tape.fault()I
set_option maxRecDepth 100000 in
set_option maxHeartbeats 8000000 in
theorem v_89 (μ : wm_M) (Q : Option Value → wm_M → Prop) (h : wm_OkV 0 90 [.ref 59] (wm_si (wm_si μ 59 7 (0 : Int32)) 59 3 (0 : Int32)) (fun μ1 => (((μ1.1 59 8) ≤ (2 : Int32) → wm_Wp 0 89 27 [.ref 59] μ1 Q) ∧ (¬ (μ1.1 59 8) ≤ (2 : Int32) → Q (some (.int (μ1.1 59 6))) μ1)))) : wm_Ok 0 89 [.ref 59] μ Q := wm_ent (nL := 1) (l := [.ref 59]) (by decide +kernel) (by decide +kernel) (by decide +kernel) rfl rfl (wm_vc mo_89 (rt := some .int) (by decide +kernel) mc_89 128 h)
-- WindBoat$Tape.fault()I, the place 27
set_option maxRecDepth 100000 in
set_option maxHeartbeats 8000000 in
theorem w_89_27 (μ : wm_M) (Q : Option Value → wm_M → Prop) (h : wm_OkV 0 90 [.ref 59] (wm_si μ 59 4 (μ.1 59 8)) (fun μ1 => wm_OkI 7 97 [.ref 59, .int (0 : Int32)] μ1 (fun r3 μ2 => ((r3 = (0 : Int32) → Q (some (.int (μ2.1 59 6))) μ2) ∧ (¬ r3 = (0 : Int32) → wm_Wp 0 89 52 [.ref 59] μ2 Q))))) : wm_Wp 0 89 27 [.ref 59] μ Q := wm_vc mo_89 (rt := some .int) (by decide +kernel) mc_89 128 h
-- WindBoat$Tape.fault()I, the place 52
set_option maxRecDepth 100000 in
set_option maxHeartbeats 8000000 in
theorem w_89_52 (μ : wm_M) (Q : Option Value → wm_M → Prop) (h : ((((wm_si μ 59 5 (μ.1 59 3)).1 59 8) = (9 : Int32) → wm_OkV 0 90 [.ref 59] (wm_si μ 59 5 (μ.1 59 3)) (fun μ1 => wm_OkI 7 97 [.ref 59, .int (0 : Int32)] μ1 (fun r3 μ2 => ((r3 = (0 : Int32) → Q (some (.int (μ2.1 59 6))) μ2) ∧ (¬ r3 = (0 : Int32) → wm_Wp 0 89 86 [.ref 59] μ2 Q))))) ∧ (¬ ((wm_si μ 59 5 (μ.1 59 3)).1 59 8) = (9 : Int32) → wm_Wp 0 89 86 [.ref 59] (wm_si μ 59 5 (μ.1 59 3)) Q))) : wm_Wp 0 89 52 [.ref 59] μ Q := wm_vc mo_89 (rt := some .int) (by decide +kernel) mc_89 128 h
-- WindBoat$Tape.fault()I, the place 86
set_option maxRecDepth 100000 in
set_option maxHeartbeats 8000000 in
theorem w_89_86 (μ : wm_M) (Q : Option Value → wm_M → Prop) (h : (((μ.1 59 8) = (128 : Int32) → Q (some (.int (-1 : Int32))) μ) ∧ (¬ (μ.1 59 8) = (128 : Int32) → wm_Wp 0 89 100 [.ref 59] μ Q))) : wm_Wp 0 89 86 [.ref 59] μ Q := wm_vc mo_89 (rt := some .int) (by decide +kernel) mc_89 128 h
-- WindBoat$Tape.fault()I, the place 100
set_option maxRecDepth 100000 in
set_option maxHeartbeats 8000000 in
theorem w_89_100 (μ : wm_M) (Q : Option Value → wm_M → Prop) (h : Q (some (.int (μ.1 59 6))) μ) : wm_Wp 0 89 100 [.ref 59] μ Q := wm_vc mo_89 (rt := some .int) (by decide +kernel) mc_89 128 h
-- WindBoat$Tape.advanceByNumber()V
set_option maxRecDepth 100000 in
set_option maxHeartbeats 8000000 in
theorem v_93 (μ : wm_M) (Q : Option Value → wm_M → Prop) (h : wm_Wp 0 93 5 [.ref 59] (wm_si μ 59 9 (0 : Int32)) Q) : wm_Ok 0 93 [.ref 59] μ Q := wm_ent (nL := 1) (l := [.ref 59]) (by decide +kernel) (by decide +kernel) (by decide +kernel) rfl rfl (wm_vc mo_93 (rt := none) (by decide +kernel) mc_93 118 h)
-- WindBoat$Tape.advanceByNumber()V, the place 5
set_option maxRecDepth 100000 in
set_option maxHeartbeats 8000000 in
theorem w_93_5 (μ : wm_M) (Q : Option Value → wm_M → Prop) (h : (((μ.1 59 1) ≤ (μ.1 59 7) → wm_Wp 0 93 68 [.ref 59] μ Q) ∧ (¬ (μ.1 59 1) ≤ (μ.1 59 7) → (vp_in (μ.1 59 7) 120 ∧ wm_OkI 0 95 [.int (μ.1 60 ((μ.1 59 7)).toNatClampNeg)] μ (fun r2 μ1 => ((r2 = (0 : Int32) → wm_Wp 0 93 68 [.ref 59] μ1 Q) ∧ (¬ r2 = (0 : Int32) → (vp_in (μ1.1 59 7) 120 ∧ wm_Wp 0 93 5 [.ref 59] (wm_si (wm_si μ1 59 9 ((((μ1.1 59 9) * (10 : Int32)) + (μ1.1 60 ((μ1.1 59 7)).toNatClampNeg)) - (48 : Int32))) 59 7 (((wm_si μ1 59 9 ((((μ1.1 59 9) * (10 : Int32)) + (μ1.1 60 ((μ1.1 59 7)).toNatClampNeg)) - (48 : Int32))).1 59 7) + (1 : Int32))) Q)))))))) : wm_Wp 0 93 5 [.ref 59] μ Q := wm_vc mo_93 (rt := none) (by decide +kernel) mc_93 118 h
-- WindBoat$Tape.advanceByNumber()V, the place 68
set_option maxRecDepth 100000 in
set_option maxHeartbeats 8000000 in
theorem w_93_68 (μ : wm_M) (Q : Option Value → wm_M → Prop) (h : ((((μ.1 59 7) - (μ.1 59 6)) ≤ (5 : Int32) → Q none (wm_si μ 59 8 (129 : Int32))) ∧ (¬ ((μ.1 59 7) - (μ.1 59 6)) ≤ (5 : Int32) → Q none (wm_si μ 59 8 (130 : Int32))))) : wm_Wp 0 93 68 [.ref 59] μ Q := wm_vc mo_93 (rt := none) (by decide +kernel) mc_93 118 h
-- WindBoat$Tape.isLetter(I)Z
set_option maxRecDepth 100000 in
set_option maxHeartbeats 8000000 in
theorem v_94 (a0 : Int32) (μ : wm_M) (Q : Option Value → wm_M → Prop) (h : ((a0 < (97 : Int32) → wm_Wp 0 94 16 [.null] μ Q) ∧ (¬ a0 < (97 : Int32) → (((122 : Int32) < a0 → wm_Wp 0 94 16 [.null] μ Q) ∧ (¬ (122 : Int32) < a0 → (((1 : Int32) = 0 ∨ (1 : Int32) = 1) ∧ Q (some (.int (1 : Int32))) μ)))))) : wm_Ok 0 94 [.int a0] μ Q := wm_ent (nL := 1) (l := [.int a0]) (by decide +kernel) (by decide +kernel) (by decide +kernel) rfl rfl (wm_vc mo_94 (rt := some .boolean) (by decide +kernel) mc_94 40 h)
-- WindBoat$Tape.isLetter(I)Z, the place 16
set_option maxRecDepth 100000 in
set_option maxHeartbeats 8000000 in
theorem w_94_16 (μ : wm_M) (Q : Option Value → wm_M → Prop) (h : (((0 : Int32) = 0 ∨ (0 : Int32) = 1) ∧ Q (some (.int (0 : Int32))) μ)) : wm_Wp 0 94 16 [.null] μ Q := wm_vc mo_94 (rt := some .boolean) (by decide +kernel) mc_94 40 h
-- WindBoat$Tape.isDigit(I)Z
set_option maxRecDepth 100000 in
set_option maxHeartbeats 8000000 in
theorem v_95 (a0 : Int32) (μ : wm_M) (Q : Option Value → wm_M → Prop) (h : ((a0 < (48 : Int32) → wm_Wp 0 95 16 [.null] μ Q) ∧ (¬ a0 < (48 : Int32) → (((57 : Int32) < a0 → wm_Wp 0 95 16 [.null] μ Q) ∧ (¬ (57 : Int32) < a0 → (((1 : Int32) = 0 ∨ (1 : Int32) = 1) ∧ Q (some (.int (1 : Int32))) μ)))))) : wm_Ok 0 95 [.int a0] μ Q := wm_ent (nL := 1) (l := [.int a0]) (by decide +kernel) (by decide +kernel) (by decide +kernel) rfl rfl (wm_vc mo_95 (rt := some .boolean) (by decide +kernel) mc_95 40 h)
-- WindBoat$Tape.isDigit(I)Z, the place 16
set_option maxRecDepth 100000 in
set_option maxHeartbeats 8000000 in
theorem w_95_16 (μ : wm_M) (Q : Option Value → wm_M → Prop) (h : (((0 : Int32) = 0 ∨ (0 : Int32) = 1) ∧ Q (some (.int (0 : Int32))) μ)) : wm_Wp 0 95 16 [.null] μ Q := wm_vc mo_95 (rt := some .boolean) (by decide +kernel) mc_95 40 h
-- WindBoat$Tape.write(I)V
set_option maxRecDepth 100000 in
set_option maxHeartbeats 8000000 in
theorem v_96 (a1 : Int32) (μ : wm_M) (Q : Option Value → wm_M → Prop) (h : (((120 : Int32) ≤ (μ.1 59 3) → wm_Wp 0 96 29 [.null, .null] μ Q) ∧ (¬ (120 : Int32) ≤ (μ.1 59 3) → (vp_in (μ.1 59 3) 120 ∧ wm_Wp 0 96 29 [.null, .null] (wm_si (wm_si μ 61 ((μ.1 59 3)).toNatClampNeg a1) 59 3 (((wm_si μ 61 ((μ.1 59 3)).toNatClampNeg a1).1 59 3) + (1 : Int32))) Q)))) : wm_Ok 0 96 [.ref 59, .int a1] μ Q := wm_ent (nL := 2) (l := [.ref 59, .int a1]) (by decide +kernel) (by decide +kernel) (by decide +kernel) rfl rfl (wm_vc mo_96 (rt := none) (by decide +kernel) mc_96 54 h)
-- WindBoat$Tape.write(I)V, the place 29
set_option maxRecDepth 100000 in
set_option maxHeartbeats 8000000 in
theorem w_96_29 (μ : wm_M) (Q : Option Value → wm_M → Prop) (h : Q none μ) : wm_Wp 0 96 29 [.null, .null] μ Q := wm_vc mo_96 (rt := none) (by decide +kernel) mc_96 54 h
-- WindBoat$Tape.readE(I)Z
set_option maxRecDepth 100000 in
set_option maxHeartbeats 8000000 in
theorem v_97 {e : Nat} (a1 : Int32) (μ : wm_M) (Q : Option Value → wm_M → Prop) (h : wm_OkI e 98 [.ref 59, .int a1] μ (fun r2 μ1 => ((r2 = (0 : Int32) → (((0 : Int32) = 0 ∨ (0 : Int32) = 1) ∧ Q (some (.int (0 : Int32))) μ1)) ∧ (¬ r2 = (0 : Int32) → wm_Wp e 97 10 [.ref 59, .int a1, .null] μ1 Q)))) : wm_Ok e 97 [.ref 59, .int a1] μ Q := wm_ent (nL := 3) (l := [.ref 59, .int a1, .null]) (by decide +kernel) (by decide +kernel) (by decide +kernel) rfl rfl (wm_vc mo_97 (rt := some .boolean) (by decide +kernel) mc_97 80 h)
-- WindBoat$Tape.readE(I)Z, the place 10
set_option maxRecDepth 100000 in
set_option maxHeartbeats 8000000 in
theorem w_97_10 {e : Nat} (x1 : Int32) (μ : wm_M) (Q : Option Value → wm_M → Prop) (h : wm_Wp e 97 12 [.ref 59, .int x1, .int (0 : Int32)] μ Q) : wm_Wp e 97 10 [.ref 59, .int x1, .null] μ Q := wm_vc mo_97 (rt := some .boolean) (by decide +kernel) mc_97 80 h
-- WindBoat$Tape.readE(I)Z, the place 12
set_option maxRecDepth 100000 in
set_option maxHeartbeats 8000000 in
theorem w_97_12 {e : Nat} (x1 : Int32) (x2 : Int32) (μ : wm_M) (Q : Option Value → wm_M → Prop) (h : (((120 : Int32) ≤ x2 → wm_Wp e 97 53 [.null, .null, .null] μ Q) ∧ (¬ (120 : Int32) ≤ x2 → (((μ.1 59 8) = (10 : Int32) → wm_OkV 0 90 [.ref 59] μ (fun μ1 => wm_OkI e 98 [.ref 59, .int x1] μ1 (fun r3 μ2 => ((r3 = (0 : Int32) → (((0 : Int32) = 0 ∨ (0 : Int32) = 1) ∧ Q (some (.int (0 : Int32))) μ2)) ∧ (¬ r3 = (0 : Int32) → wm_Wp e 97 41 [.ref 59, .int x1, .int x2] μ2 Q))))) ∧ (¬ (μ.1 59 8) = (10 : Int32) → wm_Wp e 97 53 [.null, .null, .null] μ Q))))) : wm_Wp e 97 12 [.ref 59, .int x1, .int x2] μ Q := wm_vc mo_97 (rt := some .boolean) (by decide +kernel) mc_97 80 h
-- WindBoat$Tape.readE(I)Z, the place 41
set_option maxRecDepth 100000 in
set_option maxHeartbeats 8000000 in
theorem w_97_41 {e : Nat} (x1 : Int32) (x2 : Int32) (μ : wm_M) (Q : Option Value → wm_M → Prop) (h : wm_OkV 0 96 [.ref 59, .int (-110 : Int32)] μ (fun μ1 => wm_Wp e 97 12 [.ref 59, .int x1, .int (x2 + (1 : Int32))] μ1 Q)) : wm_Wp e 97 41 [.ref 59, .int x1, .int x2] μ Q := wm_vc mo_97 (rt := some .boolean) (by decide +kernel) mc_97 80 h
-- WindBoat$Tape.readE(I)Z, the place 53
set_option maxRecDepth 100000 in
set_option maxHeartbeats 8000000 in
theorem w_97_53 {e : Nat} (μ : wm_M) (Q : Option Value → wm_M → Prop) (h : (((1 : Int32) = 0 ∨ (1 : Int32) = 1) ∧ Q (some (.int (1 : Int32))) μ)) : wm_Wp e 97 53 [.null, .null, .null] μ Q := wm_vc mo_97 (rt := some .boolean) (by decide +kernel) mc_97 80 h
-- WindBoat$Tape.readAnd(I)Z
set_option maxRecDepth 100000 in
set_option maxHeartbeats 8000000 in
theorem v_98 {e : Nat} (a1 : Int32) (μ : wm_M) (Q : Option Value → wm_M → Prop) (h : wm_OkI e 99 [.ref 59, .int a1] μ (fun r2 μ1 => ((r2 = (0 : Int32) → (((0 : Int32) = 0 ∨ (0 : Int32) = 1) ∧ Q (some (.int (0 : Int32))) μ1)) ∧ (¬ r2 = (0 : Int32) → wm_Wp e 98 10 [.ref 59, .int a1, .null] μ1 Q)))) : wm_Ok e 98 [.ref 59, .int a1] μ Q := wm_ent (nL := 3) (l := [.ref 59, .int a1, .null]) (by decide +kernel) (by decide +kernel) (by decide +kernel) rfl rfl (wm_vc mo_98 (rt := some .boolean) (by decide +kernel) mc_98 80 h)
-- WindBoat$Tape.readAnd(I)Z, the place 10
set_option maxRecDepth 100000 in
set_option maxHeartbeats 8000000 in
theorem w_98_10 {e : Nat} (x1 : Int32) (μ : wm_M) (Q : Option Value → wm_M → Prop) (h : wm_Wp e 98 12 [.ref 59, .int x1, .int (0 : Int32)] μ Q) : wm_Wp e 98 10 [.ref 59, .int x1, .null] μ Q := wm_vc mo_98 (rt := some .boolean) (by decide +kernel) mc_98 80 h
-- WindBoat$Tape.readAnd(I)Z, the place 12
set_option maxRecDepth 100000 in
set_option maxHeartbeats 8000000 in
theorem w_98_12 {e : Nat} (x1 : Int32) (x2 : Int32) (μ : wm_M) (Q : Option Value → wm_M → Prop) (h : (((120 : Int32) ≤ x2 → wm_Wp e 98 53 [.null, .null, .null] μ Q) ∧ (¬ (120 : Int32) ≤ x2 → (((μ.1 59 8) = (11 : Int32) → wm_OkV 0 90 [.ref 59] μ (fun μ1 => wm_OkI e 99 [.ref 59, .int x1] μ1 (fun r3 μ2 => ((r3 = (0 : Int32) → (((0 : Int32) = 0 ∨ (0 : Int32) = 1) ∧ Q (some (.int (0 : Int32))) μ2)) ∧ (¬ r3 = (0 : Int32) → wm_Wp e 98 41 [.ref 59, .int x1, .int x2] μ2 Q))))) ∧ (¬ (μ.1 59 8) = (11 : Int32) → wm_Wp e 98 53 [.null, .null, .null] μ Q))))) : wm_Wp e 98 12 [.ref 59, .int x1, .int x2] μ Q := wm_vc mo_98 (rt := some .boolean) (by decide +kernel) mc_98 80 h
-- WindBoat$Tape.readAnd(I)Z, the place 41
set_option maxRecDepth 100000 in
set_option maxHeartbeats 8000000 in
theorem w_98_41 {e : Nat} (x1 : Int32) (x2 : Int32) (μ : wm_M) (Q : Option Value → wm_M → Prop) (h : wm_OkV 0 96 [.ref 59, .int (-111 : Int32)] μ (fun μ1 => wm_Wp e 98 12 [.ref 59, .int x1, .int (x2 + (1 : Int32))] μ1 Q)) : wm_Wp e 98 41 [.ref 59, .int x1, .int x2] μ Q := wm_vc mo_98 (rt := some .boolean) (by decide +kernel) mc_98 80 h
-- WindBoat$Tape.readAnd(I)Z, the place 53
set_option maxRecDepth 100000 in
set_option maxHeartbeats 8000000 in
theorem w_98_53 {e : Nat} (μ : wm_M) (Q : Option Value → wm_M → Prop) (h : (((1 : Int32) = 0 ∨ (1 : Int32) = 1) ∧ Q (some (.int (1 : Int32))) μ)) : wm_Wp e 98 53 [.null, .null, .null] μ Q := wm_vc mo_98 (rt := some .boolean) (by decide +kernel) mc_98 80 h
-- WindBoat$Tape.readNot(I)Z
set_option maxRecDepth 100000 in
set_option maxHeartbeats 8000000 in
theorem v_99 {e : Nat} (a1 : Int32) (μ : wm_M) (Q : Option Value → wm_M → Prop) (h : (((μ.1 59 8) = (12 : Int32) → wm_Wp (e + 1) 99 15 [.ref 59, .int a1] μ Q) ∧ (¬ (μ.1 59 8) = (12 : Int32) → wm_OkI (e + 1) 100 [.ref 59, .int a1] μ (fun r2 μ1 => ((r2 = 0 ∨ r2 = 1) ∧ Q (some (.int r2)) μ1))))) : wm_Ok (e + 1) 99 [.ref 59, .int a1] μ Q := wm_ent (nL := 2) (l := [.ref 59, .int a1]) (by decide +kernel) (by decide +kernel) (by decide +kernel) rfl rfl (wm_vc mo_99 (rt := some .boolean) (by decide +kernel) mc_99 76 h)
-- WindBoat$Tape.readNot(I)Z, the place 15
set_option maxRecDepth 100000 in
set_option maxHeartbeats 8000000 in
theorem w_99_15 {e : Nat} (x1 : Int32) (μ : wm_M) (Q : Option Value → wm_M → Prop) (h : ((x1 = (6 : Int32) → (((0 : Int32) = 0 ∨ (0 : Int32) = 1) ∧ Q (some (.int (0 : Int32))) μ)) ∧ (¬ x1 = (6 : Int32) → wm_Wp (e + 1) 99 23 [.ref 59, .int x1] μ Q))) : wm_Wp (e + 1) 99 15 [.ref 59, .int x1] μ Q := wm_vc mo_99 (rt := some .boolean) (by decide +kernel) mc_99 76 h
-- WindBoat$Tape.readNot(I)Z, the place 23
set_option maxRecDepth 100000 in
set_option maxHeartbeats 8000000 in
theorem w_99_23 {e : Nat} (x1 : Int32) (μ : wm_M) (Q : Option Value → wm_M → Prop) (h : wm_OkV 0 90 [.ref 59] μ (fun μ1 => wm_OkI e 99 [.ref 59, .int (x1 + (1 : Int32))] μ1 (fun r3 μ2 => ((r3 = (0 : Int32) → (((0 : Int32) = 0 ∨ (0 : Int32) = 1) ∧ Q (some (.int (0 : Int32))) μ2)) ∧ (¬ r3 = (0 : Int32) → wm_Wp (e + 1) 99 39 [.ref 59, .null] μ2 Q))))) : wm_Wp (e + 1) 99 23 [.ref 59, .int x1] μ Q := wm_vc mo_99 (rt := some .boolean) (by decide +kernel) mc_99 76 h
-- WindBoat$Tape.readNot(I)Z, the place 39
set_option maxRecDepth 100000 in
set_option maxHeartbeats 8000000 in
theorem w_99_39 {e : Nat} (μ : wm_M) (Q : Option Value → wm_M → Prop) (h : wm_OkV 0 96 [.ref 59, .int (-112 : Int32)] μ (fun μ1 => (((1 : Int32) = 0 ∨ (1 : Int32) = 1) ∧ Q (some (.int (1 : Int32))) μ1))) : wm_Wp (e + 1) 99 39 [.ref 59, .null] μ Q := wm_vc mo_99 (rt := some .boolean) (by decide +kernel) mc_99 76 h
-- WindBoat$Tape.readComparison(I)Z
set_option maxRecDepth 100000 in
set_option maxHeartbeats 8000000 in
theorem v_100 {e : Nat} (a1 : Int32) (μ : wm_M) (Q : Option Value → wm_M → Prop) (h : wm_OkI e 101 [.ref 59, .int a1] μ (fun r2 μ1 => ((r2 = (0 : Int32) → (((0 : Int32) = 0 ∨ (0 : Int32) = 1) ∧ Q (some (.int (0 : Int32))) μ1)) ∧ (¬ r2 = (0 : Int32) → wm_Wp e 100 10 [.ref 59, .int a1, .null] μ1 Q)))) : wm_Ok e 100 [.ref 59, .int a1] μ Q := wm_ent (nL := 3) (l := [.ref 59, .int a1, .null]) (by decide +kernel) (by decide +kernel) (by decide +kernel) rfl rfl (wm_vc mo_100 (rt := some .boolean) (by decide +kernel) mc_100 90 h)
-- WindBoat$Tape.readComparison(I)Z, the place 10
set_option maxRecDepth 100000 in
set_option maxHeartbeats 8000000 in
theorem w_100_10 {e : Nat} (x1 : Int32) (μ : wm_M) (Q : Option Value → wm_M → Prop) (h : (((μ.1 59 8) = (61 : Int32) → wm_Wp e 100 35 [.ref 59, .int x1, .int (μ.1 59 8)] μ Q) ∧ (¬ (μ.1 59 8) = (61 : Int32) → (((μ.1 59 8) = (60 : Int32) → wm_Wp e 100 35 [.ref 59, .int x1, .int (μ.1 59 8)] μ Q) ∧ (¬ (μ.1 59 8) = (60 : Int32) → (((μ.1 59 8) = (62 : Int32) → wm_Wp e 100 35 [.ref 59, .int x1, .int (μ.1 59 8)] μ Q) ∧ (¬ (μ.1 59 8) = (62 : Int32) → (((1 : Int32) = 0 ∨ (1 : Int32) = 1) ∧ Q (some (.int (1 : Int32))) μ)))))))) : wm_Wp e 100 10 [.ref 59, .int x1, .null] μ Q := wm_vc mo_100 (rt := some .boolean) (by decide +kernel) mc_100 90 h
-- WindBoat$Tape.readComparison(I)Z, the place 35
set_option maxRecDepth 100000 in
set_option maxHeartbeats 8000000 in
theorem w_100_35 {e : Nat} (x1 : Int32) (x2 : Int32) (μ : wm_M) (Q : Option Value → wm_M → Prop) (h : wm_OkV 0 90 [.ref 59] μ (fun μ1 => wm_OkI e 101 [.ref 59, .int x1] μ1 (fun r3 μ2 => ((r3 = (0 : Int32) → (((0 : Int32) = 0 ∨ (0 : Int32) = 1) ∧ Q (some (.int (0 : Int32))) μ2)) ∧ (¬ r3 = (0 : Int32) → wm_Wp e 100 49 [.ref 59, .null, .int x2] μ2 Q))))) : wm_Wp e 100 35 [.ref 59, .int x1, .int x2] μ Q := wm_vc mo_100 (rt := some .boolean) (by decide +kernel) mc_100 90 h
-- WindBoat$Tape.readComparison(I)Z, the place 49
set_option maxRecDepth 100000 in
set_option maxHeartbeats 8000000 in
theorem w_100_49 {e : Nat} (x2 : Int32) (μ : wm_M) (Q : Option Value → wm_M → Prop) (h : wm_OkV 0 96 [.ref 59, .int ((-100 : Int32) - x2)] μ (fun μ1 => (((1 : Int32) = 0 ∨ (1 : Int32) = 1) ∧ Q (some (.int (1 : Int32))) μ1))) : wm_Wp e 100 49 [.ref 59, .null, .int x2] μ Q := wm_vc mo_100 (rt := some .boolean) (by decide +kernel) mc_100 90 h
-- WindBoat$Tape.readSum(I)Z
set_option maxRecDepth 100000 in
set_option maxHeartbeats 8000000 in
theorem v_101 {e : Nat} (a1 : Int32) (μ : wm_M) (Q : Option Value → wm_M → Prop) (h : wm_OkI e 102 [.ref 59, .int a1] μ (fun r2 μ1 => ((r2 = (0 : Int32) → (((0 : Int32) = 0 ∨ (0 : Int32) = 1) ∧ Q (some (.int (0 : Int32))) μ1)) ∧ (¬ r2 = (0 : Int32) → wm_Wp e 101 10 [.ref 59, .int a1, .null, .null] μ1 Q)))) : wm_Ok e 101 [.ref 59, .int a1] μ Q := wm_ent (nL := 4) (l := [.ref 59, .int a1, .null, .null]) (by decide +kernel) (by decide +kernel) (by decide +kernel) rfl rfl (wm_vc mo_101 (rt := some .boolean) (by decide +kernel) mc_101 98 h)
-- WindBoat$Tape.readSum(I)Z, the place 10
set_option maxRecDepth 100000 in
set_option maxHeartbeats 8000000 in
theorem w_101_10 {e : Nat} (x1 : Int32) (μ : wm_M) (Q : Option Value → wm_M → Prop) (h : wm_Wp e 101 12 [.ref 59, .int x1, .int (0 : Int32), .null] μ Q) : wm_Wp e 101 10 [.ref 59, .int x1, .null, .null] μ Q := wm_vc mo_101 (rt := some .boolean) (by decide +kernel) mc_101 98 h
-- WindBoat$Tape.readSum(I)Z, the place 12
set_option maxRecDepth 100000 in
set_option maxHeartbeats 8000000 in
theorem w_101_12 {e : Nat} (x1 : Int32) (x2 : Int32) (μ : wm_M) (Q : Option Value → wm_M → Prop) (h : (((120 : Int32) ≤ x2 → wm_Wp e 101 69 [.null, .null, .null, .null] μ Q) ∧ (¬ (120 : Int32) ≤ x2 → (((μ.1 59 8) = (43 : Int32) → wm_Wp e 101 36 [.ref 59, .int x1, .int x2, .null] μ Q) ∧ (¬ (μ.1 59 8) = (43 : Int32) → (((μ.1 59 8) = (45 : Int32) → wm_Wp e 101 36 [.ref 59, .int x1, .int x2, .null] μ Q) ∧ (¬ (μ.1 59 8) = (45 : Int32) → wm_Wp e 101 69 [.null, .null, .null, .null] μ Q))))))) : wm_Wp e 101 12 [.ref 59, .int x1, .int x2, .null] μ Q := wm_vc mo_101 (rt := some .boolean) (by decide +kernel) mc_101 98 h
-- WindBoat$Tape.readSum(I)Z, the place 36
set_option maxRecDepth 100000 in
set_option maxHeartbeats 8000000 in
theorem w_101_36 {e : Nat} (x1 : Int32) (x2 : Int32) (μ : wm_M) (Q : Option Value → wm_M → Prop) (h : wm_OkV 0 90 [.ref 59] μ (fun μ1 => wm_OkI e 102 [.ref 59, .int x1] μ1 (fun r3 μ2 => ((r3 = (0 : Int32) → (((0 : Int32) = 0 ∨ (0 : Int32) = 1) ∧ Q (some (.int (0 : Int32))) μ2)) ∧ (¬ r3 = (0 : Int32) → wm_Wp e 101 55 [.ref 59, .int x1, .int x2, .int (μ.1 59 8)] μ2 Q))))) : wm_Wp e 101 36 [.ref 59, .int x1, .int x2, .null] μ Q := wm_vc mo_101 (rt := some .boolean) (by decide +kernel) mc_101 98 h
-- WindBoat$Tape.readSum(I)Z, the place 55
set_option maxRecDepth 100000 in
set_option maxHeartbeats 8000000 in
theorem w_101_55 {e : Nat} (x1 : Int32) (x2 : Int32) (x3 : Int32) (μ : wm_M) (Q : Option Value → wm_M → Prop) (h : wm_OkV 0 96 [.ref 59, .int ((-100 : Int32) - x3)] μ (fun μ1 => wm_Wp e 101 12 [.ref 59, .int x1, .int (x2 + (1 : Int32)), .null] μ1 Q)) : wm_Wp e 101 55 [.ref 59, .int x1, .int x2, .int x3] μ Q := wm_vc mo_101 (rt := some .boolean) (by decide +kernel) mc_101 98 h
-- WindBoat$Tape.readSum(I)Z, the place 69
set_option maxRecDepth 100000 in
set_option maxHeartbeats 8000000 in
theorem w_101_69 {e : Nat} (μ : wm_M) (Q : Option Value → wm_M → Prop) (h : (((1 : Int32) = 0 ∨ (1 : Int32) = 1) ∧ Q (some (.int (1 : Int32))) μ)) : wm_Wp e 101 69 [.null, .null, .null, .null] μ Q := wm_vc mo_101 (rt := some .boolean) (by decide +kernel) mc_101 98 h
-- WindBoat$Tape.readTerm(I)Z
set_option maxRecDepth 100000 in
set_option maxHeartbeats 8000000 in
theorem v_102 {e : Nat} (a1 : Int32) (μ : wm_M) (Q : Option Value → wm_M → Prop) (h : wm_OkI e 103 [.ref 59, .int a1] μ (fun r2 μ1 => ((r2 = (0 : Int32) → (((0 : Int32) = 0 ∨ (0 : Int32) = 1) ∧ Q (some (.int (0 : Int32))) μ1)) ∧ (¬ r2 = (0 : Int32) → wm_Wp e 102 10 [.ref 59, .int a1, .null, .null] μ1 Q)))) : wm_Ok e 102 [.ref 59, .int a1] μ Q := wm_ent (nL := 4) (l := [.ref 59, .int a1, .null, .null]) (by decide +kernel) (by decide +kernel) (by decide +kernel) rfl rfl (wm_vc mo_102 (rt := some .boolean) (by decide +kernel) mc_102 106 h)
-- WindBoat$Tape.readTerm(I)Z, the place 10
set_option maxRecDepth 100000 in
set_option maxHeartbeats 8000000 in
theorem w_102_10 {e : Nat} (x1 : Int32) (μ : wm_M) (Q : Option Value → wm_M → Prop) (h : wm_Wp e 102 12 [.ref 59, .int x1, .int (0 : Int32), .null] μ Q) : wm_Wp e 102 10 [.ref 59, .int x1, .null, .null] μ Q := wm_vc mo_102 (rt := some .boolean) (by decide +kernel) mc_102 106 h
-- WindBoat$Tape.readTerm(I)Z, the place 12
set_option maxRecDepth 100000 in
set_option maxHeartbeats 8000000 in
theorem w_102_12 {e : Nat} (x1 : Int32) (x2 : Int32) (μ : wm_M) (Q : Option Value → wm_M → Prop) (h : (((120 : Int32) ≤ x2 → wm_Wp e 102 78 [.null, .null, .null, .null] μ Q) ∧ (¬ (120 : Int32) ≤ x2 → (((μ.1 59 8) = (42 : Int32) → wm_Wp e 102 45 [.ref 59, .int x1, .int x2, .null] μ Q) ∧ (¬ (μ.1 59 8) = (42 : Int32) → (((μ.1 59 8) = (47 : Int32) → wm_Wp e 102 45 [.ref 59, .int x1, .int x2, .null] μ Q) ∧ (¬ (μ.1 59 8) = (47 : Int32) → (((μ.1 59 8) = (37 : Int32) → wm_Wp e 102 45 [.ref 59, .int x1, .int x2, .null] μ Q) ∧ (¬ (μ.1 59 8) = (37 : Int32) → wm_Wp e 102 78 [.null, .null, .null, .null] μ Q))))))))) : wm_Wp e 102 12 [.ref 59, .int x1, .int x2, .null] μ Q := wm_vc mo_102 (rt := some .boolean) (by decide +kernel) mc_102 106 h
-- WindBoat$Tape.readTerm(I)Z, the place 45
set_option maxRecDepth 100000 in
set_option maxHeartbeats 8000000 in
theorem w_102_45 {e : Nat} (x1 : Int32) (x2 : Int32) (μ : wm_M) (Q : Option Value → wm_M → Prop) (h : wm_OkV 0 90 [.ref 59] μ (fun μ1 => wm_OkI e 103 [.ref 59, .int x1] μ1 (fun r3 μ2 => ((r3 = (0 : Int32) → (((0 : Int32) = 0 ∨ (0 : Int32) = 1) ∧ Q (some (.int (0 : Int32))) μ2)) ∧ (¬ r3 = (0 : Int32) → wm_Wp e 102 64 [.ref 59, .int x1, .int x2, .int (μ.1 59 8)] μ2 Q))))) : wm_Wp e 102 45 [.ref 59, .int x1, .int x2, .null] μ Q := wm_vc mo_102 (rt := some .boolean) (by decide +kernel) mc_102 106 h
-- WindBoat$Tape.readTerm(I)Z, the place 64
set_option maxRecDepth 100000 in
set_option maxHeartbeats 8000000 in
theorem w_102_64 {e : Nat} (x1 : Int32) (x2 : Int32) (x3 : Int32) (μ : wm_M) (Q : Option Value → wm_M → Prop) (h : wm_OkV 0 96 [.ref 59, .int ((-100 : Int32) - x3)] μ (fun μ1 => wm_Wp e 102 12 [.ref 59, .int x1, .int (x2 + (1 : Int32)), .null] μ1 Q)) : wm_Wp e 102 64 [.ref 59, .int x1, .int x2, .int x3] μ Q := wm_vc mo_102 (rt := some .boolean) (by decide +kernel) mc_102 106 h
-- WindBoat$Tape.readTerm(I)Z, the place 78
set_option maxRecDepth 100000 in
set_option maxHeartbeats 8000000 in
theorem w_102_78 {e : Nat} (μ : wm_M) (Q : Option Value → wm_M → Prop) (h : (((1 : Int32) = 0 ∨ (1 : Int32) = 1) ∧ Q (some (.int (1 : Int32))) μ)) : wm_Wp e 102 78 [.null, .null, .null, .null] μ Q := wm_vc mo_102 (rt := some .boolean) (by decide +kernel) mc_102 106 h
-- WindBoat$Tape.readOne(I)Z
set_option maxRecDepth 100000 in
set_option maxHeartbeats 8000000 in
theorem v_103 {e : Nat} (a1 : Int32) (μ : wm_M) (Q : Option Value → wm_M → Prop) (h : (((μ.1 59 8) = (129 : Int32) → wm_OkV 0 96 [.ref 59, .int (μ.1 59 9)] μ (fun μ1 => wm_OkV 0 90 [.ref 59] μ1 (fun μ2 => (((1 : Int32) = 0 ∨ (1 : Int32) = 1) ∧ Q (some (.int (1 : Int32))) μ2)))) ∧ (¬ (μ.1 59 8) = (129 : Int32) → wm_Wp e 103 24 [.ref 59, .int a1] μ Q))) : wm_Ok e 103 [.ref 59, .int a1] μ Q := wm_ent (nL := 2) (l := [.ref 59, .int a1]) (by decide +kernel) (by decide +kernel) (by decide +kernel) rfl rfl (wm_vc mo_103 (rt := some .boolean) (by decide +kernel) mc_103 142 h)
-- WindBoat$Tape.readOne(I)Z, the place 24
set_option maxRecDepth 100000 in
set_option maxHeartbeats 8000000 in
theorem w_103_24 {e : Nat} (x1 : Int32) (μ : wm_M) (Q : Option Value → wm_M → Prop) (h : (((μ.1 59 8) < (3 : Int32) → wm_Wp e 103 59 [.ref 59, .int x1] μ Q) ∧ (¬ (μ.1 59 8) < (3 : Int32) → (((8 : Int32) < (μ.1 59 8) → wm_Wp e 103 59 [.ref 59, .int x1] μ Q) ∧ (¬ (8 : Int32) < (μ.1 59 8) → wm_OkV 0 96 [.ref 59, .int ((-1 : Int32) - ((μ.1 59 8) - (3 : Int32)))] μ (fun μ1 => wm_OkV 0 90 [.ref 59] μ1 (fun μ2 => (((1 : Int32) = 0 ∨ (1 : Int32) = 1) ∧ Q (some (.int (1 : Int32))) μ2)))))))) : wm_Wp e 103 24 [.ref 59, .int x1] μ Q := wm_vc mo_103 (rt := some .boolean) (by decide +kernel) mc_103 142 h
-- WindBoat$Tape.readOne(I)Z, the place 59
set_option maxRecDepth 100000 in
set_option maxHeartbeats 8000000 in
theorem w_103_59 {e : Nat} (x1 : Int32) (μ : wm_M) (Q : Option Value → wm_M → Prop) (h : ((x1 = (6 : Int32) → wm_Wp e 103 83 [.null, .null] μ Q) ∧ (¬ x1 = (6 : Int32) → (((μ.1 59 8) = (45 : Int32) → wm_Wp e 103 85 [.ref 59, .int x1] μ Q) ∧ (¬ (μ.1 59 8) = (45 : Int32) → (((μ.1 59 8) = (40 : Int32) → wm_Wp e 103 85 [.ref 59, .int x1] μ Q) ∧ (¬ (μ.1 59 8) = (40 : Int32) → wm_Wp e 103 83 [.null, .null] μ Q))))))) : wm_Wp e 103 59 [.ref 59, .int x1] μ Q := wm_vc mo_103 (rt := some .boolean) (by decide +kernel) mc_103 142 h
-- WindBoat$Tape.readOne(I)Z, the place 83
set_option maxRecDepth 100000 in
set_option maxHeartbeats 8000000 in
theorem w_103_83 {e : Nat} (μ : wm_M) (Q : Option Value → wm_M → Prop) (h : (((0 : Int32) = 0 ∨ (0 : Int32) = 1) ∧ Q (some (.int (0 : Int32))) μ)) : wm_Wp e 103 83 [.null, .null] μ Q := wm_vc mo_103 (rt := some .boolean) (by decide +kernel) mc_103 142 h
-- WindBoat$Tape.readOne(I)Z, the place 85
set_option maxRecDepth 100000 in
set_option maxHeartbeats 8000000 in
theorem w_103_85 {e : Nat} (x1 : Int32) (μ : wm_M) (Q : Option Value → wm_M → Prop) (h : (((μ.1 59 8) = (45 : Int32) → wm_OkI e 104 [.ref 59, .int (x1 + (1 : Int32))] μ (fun r2 μ1 => ((r2 = 0 ∨ r2 = 1) ∧ Q (some (.int r2)) μ1))) ∧ (¬ (μ.1 59 8) = (45 : Int32) → wm_Wp e 103 104 [.ref 59, .int x1] μ Q))) : wm_Wp e 103 85 [.ref 59, .int x1] μ Q := wm_vc mo_103 (rt := some .boolean) (by decide +kernel) mc_103 142 h
-- WindBoat$Tape.readOne(I)Z, the place 104
set_option maxRecDepth 100000 in
set_option maxHeartbeats 8000000 in
theorem w_103_104 {e : Nat} (x1 : Int32) (μ : wm_M) (Q : Option Value → wm_M → Prop) (h : wm_OkI e 105 [.ref 59, .int (x1 + (1 : Int32))] μ (fun r2 μ1 => ((r2 = 0 ∨ r2 = 1) ∧ Q (some (.int r2)) μ1))) : wm_Wp e 103 104 [.ref 59, .int x1] μ Q := wm_vc mo_103 (rt := some .boolean) (by decide +kernel) mc_103 142 h
