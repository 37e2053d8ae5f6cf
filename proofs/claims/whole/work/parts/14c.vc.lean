/-! ===== what each block of code asks (printed by wip/gen/genvc.py) ===== -/
-- WindBoat$Rules.add(LWindBoat$Tape;II)I
set_option maxRecDepth 100000 in
set_option maxHeartbeats 8000000 in
theorem f_61 (a2 : Int32) (a3 : Int32) (μ : wm_M) (Q : Option Value → wm_M → Prop) (h : (vp_in (μ.1 18 6) 12 ∧ wm_Wp 0 61 13 [.ref 18, .ref 59, .int a2, .int a3] (wm_si μ 19 ((μ.1 18 6)).toNatClampNeg (μ.1 59 4)) Q)) : wm_Ok 0 61 [.ref 18, .ref 59, .int a2, .int a3] μ Q := wm_ent (nL := 4) (l := [.ref 18, .ref 59, .int a2, .int a3]) (by decide +kernel) (by decide +kernel) (by decide +kernel) rfl rfl (wm_vc mo_61 (rt := some .int) (by decide +kernel) mc_61 132 h)
-- WindBoat$Rules.add(LWindBoat$Tape;II)I, the place 13
set_option maxRecDepth 100000 in
set_option maxHeartbeats 8000000 in
theorem f_61_13 (x2 : Int32) (x3 : Int32) (μ : wm_M) (Q : Option Value → wm_M → Prop) (h : (vp_in (μ.1 18 6) 12 ∧ wm_Wp 0 61 23 [.ref 18, .ref 59, .null, .int x3] (wm_si μ 20 ((μ.1 18 6)).toNatClampNeg x2) Q)) : wm_Wp 0 61 13 [.ref 18, .ref 59, .int x2, .int x3] μ Q := wm_vc mo_61 (rt := some .int) (by decide +kernel) mc_61 132 h
-- WindBoat$Rules.add(LWindBoat$Tape;II)I, the place 23
set_option maxRecDepth 100000 in
set_option maxHeartbeats 8000000 in
theorem f_61_23 (x3 : Int32) (μ : wm_M) (Q : Option Value → wm_M → Prop) (h : (vp_in (μ.1 18 6) 12 ∧ wm_Wp 0 61 33 [.ref 18, .ref 59, .null, .null] (wm_si μ 21 ((μ.1 18 6)).toNatClampNeg x3) Q)) : wm_Wp 0 61 23 [.ref 18, .ref 59, .null, .int x3] μ Q := wm_vc mo_61 (rt := some .int) (by decide +kernel) mc_61 132 h
-- WindBoat$Rules.add(LWindBoat$Tape;II)I, the place 33
set_option maxRecDepth 100000 in
set_option maxHeartbeats 8000000 in
theorem f_61_33 (μ : wm_M) (Q : Option Value → wm_M → Prop) (h : (vp_in (μ.1 18 6) 12 ∧ wm_Wp 0 61 46 [.ref 18, .ref 59, .null, .null] (wm_si μ 22 ((μ.1 18 6)).toNatClampNeg (μ.1 59 5)) Q)) : wm_Wp 0 61 33 [.ref 18, .ref 59, .null, .null] μ Q := wm_vc mo_61 (rt := some .int) (by decide +kernel) mc_61 132 h
-- WindBoat$Rules.add(LWindBoat$Tape;II)I, the place 46
set_option maxRecDepth 100000 in
set_option maxHeartbeats 8000000 in
theorem f_61_46 (μ : wm_M) (Q : Option Value → wm_M → Prop) (h : (vp_in (μ.1 18 6) 12 ∧ wm_Wp 0 61 59 [.ref 18, .ref 59, .null, .null] (wm_si μ 23 ((μ.1 18 6)).toNatClampNeg (μ.1 59 3)) Q)) : wm_Wp 0 61 46 [.ref 18, .ref 59, .null, .null] μ Q := wm_vc mo_61 (rt := some .int) (by decide +kernel) mc_61 132 h
-- WindBoat$Rules.add(LWindBoat$Tape;II)I, the place 59
set_option maxRecDepth 100000 in
set_option maxHeartbeats 8000000 in
theorem f_61_59 (μ : wm_M) (Q : Option Value → wm_M → Prop) (h : (¬ (0 : Int32) < 0 ∧ ¬ ((μ.1 18 6) * (120 : Int32)) < 0 ∧ ¬ (μ.1 59 3) < 0 ∧ ((0 : Int32)).toNatClampNeg + ((μ.1 59 3)).toNatClampNeg ≤ 120 ∧ (((μ.1 18 6) * (120 : Int32))).toNatClampNeg + ((μ.1 59 3)).toNatClampNeg ≤ 1440 ∧ ∀ μ1, μ1 = wm_sr μ 24 (va_cpy (μ.1 61) (μ.1 24) ((0 : Int32)).toNatClampNeg (((μ.1 18 6) * (120 : Int32))).toNatClampNeg ((μ.1 59 3)).toNatClampNeg) → wm_Wp 0 61 82 [.ref 18, .null, .null, .null] μ1 Q)) : wm_Wp 0 61 59 [.ref 18, .ref 59, .null, .null] μ Q := wm_vc mo_61 (rt := some .int) (by decide +kernel) mc_61 132 h
-- WindBoat$Rules.add(LWindBoat$Tape;II)I, the place 82
set_option maxRecDepth 100000 in
set_option maxHeartbeats 8000000 in
theorem f_61_82 (μ : wm_M) (Q : Option Value → wm_M → Prop) (h : wm_Wp 0 61 92 [.ref 18, .null, .null, .null] (wm_si μ 18 6 ((μ.1 18 6) + (1 : Int32))) Q) : wm_Wp 0 61 82 [.ref 18, .null, .null, .null] μ Q := wm_vc mo_61 (rt := some .int) (by decide +kernel) mc_61 132 h
-- WindBoat$Rules.add(LWindBoat$Tape;II)I, the place 92
set_option maxRecDepth 100000 in
set_option maxHeartbeats 8000000 in
theorem f_61_92 (μ : wm_M) (Q : Option Value → wm_M → Prop) (h : Q (some (.int ((μ.1 18 6) - (1 : Int32)))) μ) : wm_Wp 0 61 92 [.ref 18, .null, .null, .null] μ Q := wm_vc mo_61 (rt := some .int) (by decide +kernel) mc_61 132 h
-- WindBoat$Rules.name(IIIII)V
set_option maxRecDepth 100000 in
set_option maxHeartbeats 8000000 in
theorem f_62 (a1 : Int32) (a2 : Int32) (a3 : Int32) (a4 : Int32) (a5 : Int32) (μ : wm_M) (Q : Option Value → wm_M → Prop) (h : (vp_in (0 : Int32) 6 ∧ wm_Wp 0 62 7 [.ref 18, .int a1, .int a2, .int a3, .int a4, .int a5] (wm_si μ 25 ((0 : Int32)).toNatClampNeg a1) Q)) : wm_Ok 0 62 [.ref 18, .int a1, .int a2, .int a3, .int a4, .int a5] μ Q := wm_ent (nL := 6) (l := [.ref 18, .int a1, .int a2, .int a3, .int a4, .int a5]) (by decide +kernel) (by decide +kernel) (by decide +kernel) rfl rfl (wm_vc mo_62 (rt := none) (by decide +kernel) mc_62 86 h)
-- WindBoat$Rules.name(IIIII)V, the place 7
set_option maxRecDepth 100000 in
set_option maxHeartbeats 8000000 in
theorem f_62_7 (x1 : Int32) (x2 : Int32) (x3 : Int32) (x4 : Int32) (x5 : Int32) (μ : wm_M) (Q : Option Value → wm_M → Prop) (h : (¬ (6 : Int32) = 0 ∧ (vp_in (1 : Int32) 6 ∧ wm_Wp 0 62 17 [.ref 18, .null, .int x2, .int x3, .int x4, .int x5] (wm_si μ 25 ((1 : Int32)).toNatClampNeg (x1 / (6 : Int32))) Q))) : wm_Wp 0 62 7 [.ref 18, .int x1, .int x2, .int x3, .int x4, .int x5] μ Q := wm_vc mo_62 (rt := none) (by decide +kernel) mc_62 86 h
-- WindBoat$Rules.name(IIIII)V, the place 17
set_option maxRecDepth 100000 in
set_option maxHeartbeats 8000000 in
theorem f_62_17 (x2 : Int32) (x3 : Int32) (x4 : Int32) (x5 : Int32) (μ : wm_M) (Q : Option Value → wm_M → Prop) (h : (vp_in (2 : Int32) 6 ∧ wm_Wp 0 62 24 [.ref 18, .null, .null, .int x3, .int x4, .int x5] (wm_si μ 25 ((2 : Int32)).toNatClampNeg x2) Q)) : wm_Wp 0 62 17 [.ref 18, .null, .int x2, .int x3, .int x4, .int x5] μ Q := wm_vc mo_62 (rt := none) (by decide +kernel) mc_62 86 h
-- WindBoat$Rules.name(IIIII)V, the place 24
set_option maxRecDepth 100000 in
set_option maxHeartbeats 8000000 in
theorem f_62_24 (x3 : Int32) (x4 : Int32) (x5 : Int32) (μ : wm_M) (Q : Option Value → wm_M → Prop) (h : (vp_in (3 : Int32) 6 ∧ wm_Wp 0 62 31 [.ref 18, .null, .null, .null, .int x4, .int x5] (wm_si μ 25 ((3 : Int32)).toNatClampNeg x3) Q)) : wm_Wp 0 62 24 [.ref 18, .null, .null, .int x3, .int x4, .int x5] μ Q := wm_vc mo_62 (rt := none) (by decide +kernel) mc_62 86 h
-- WindBoat$Rules.name(IIIII)V, the place 31
set_option maxRecDepth 100000 in
set_option maxHeartbeats 8000000 in
theorem f_62_31 (x4 : Int32) (x5 : Int32) (μ : wm_M) (Q : Option Value → wm_M → Prop) (h : (vp_in (4 : Int32) 6 ∧ wm_Wp 0 62 39 [.ref 18, .null, .null, .null, .null, .int x5] (wm_si μ 25 ((4 : Int32)).toNatClampNeg x4) Q)) : wm_Wp 0 62 31 [.ref 18, .null, .null, .null, .int x4, .int x5] μ Q := wm_vc mo_62 (rt := none) (by decide +kernel) mc_62 86 h
-- WindBoat$Rules.name(IIIII)V, the place 39
set_option maxRecDepth 100000 in
set_option maxHeartbeats 8000000 in
theorem f_62_39 (x5 : Int32) (μ : wm_M) (Q : Option Value → wm_M → Prop) (h : (vp_in (5 : Int32) 6 ∧ wm_Wp 0 62 47 [.null, .null, .null, .null, .null, .null] (wm_si μ 25 ((5 : Int32)).toNatClampNeg x5) Q)) : wm_Wp 0 62 39 [.ref 18, .null, .null, .null, .null, .int x5] μ Q := wm_vc mo_62 (rt := none) (by decide +kernel) mc_62 86 h
-- WindBoat$Rules.name(IIIII)V, the place 47
set_option maxRecDepth 100000 in
set_option maxHeartbeats 8000000 in
theorem f_62_47 (μ : wm_M) (Q : Option Value → wm_M → Prop) (h : Q none μ) : wm_Wp 0 62 47 [.null, .null, .null, .null, .null, .null] μ Q := wm_vc mo_62 (rt := none) (by decide +kernel) mc_62 86 h
-- WindBoat$Rules.ruling(I)I
set_option maxRecDepth 100000 in
set_option maxHeartbeats 8000000 in
theorem f_63 (a1 : Int32) (μ : wm_M) (Q : Option Value → wm_M → Prop) (h : (vp_in (2 : Int32) 6 ∧ wm_Wp 0 63 14 [.ref 18, .int a1, .int (μ.1 25 ((2 : Int32)).toNatClampNeg), .int ((μ.1 18 6) - (1 : Int32)), .null, .null] μ Q)) : wm_Ok 0 63 [.ref 18, .int a1] μ Q := wm_ent (nL := 6) (l := [.ref 18, .int a1, .null, .null, .null, .null]) (by decide +kernel) (by decide +kernel) (by decide +kernel) rfl rfl (wm_vc mo_63 (rt := some .int) (by decide +kernel) mc_63 130 h)
-- WindBoat$Rules.ruling(I)I, the place 14
set_option maxRecDepth 100000 in
set_option maxHeartbeats 8000000 in
theorem f_63_14 (x1 : Int32) (x2 : Int32) (x3 : Int32) (μ : wm_M) (Q : Option Value → wm_M → Prop) (h : ((x3 < (0 : Int32) → wm_Wp 0 63 91 [.null, .null, .null, .null, .null, .null] μ Q) ∧ (¬ x3 < (0 : Int32) → (vp_in x3 12 ∧ (((μ.1 19 (x3).toNatClampNeg) = x1 → (vp_in x3 12 ∧ ((x2 < (μ.1 20 (x3).toNatClampNeg) → wm_Wp 0 63 85 [.ref 18, .int x1, .int x2, .int x3, .null, .null] μ Q) ∧ (¬ x2 < (μ.1 20 (x3).toNatClampNeg) → wm_Wp 0 63 38 [.ref 18, .int x1, .int x2, .int x3, .null, .null] μ Q)))) ∧ (¬ (μ.1 19 (x3).toNatClampNeg) = x1 → wm_Wp 0 63 85 [.ref 18, .int x1, .int x2, .int x3, .null, .null] μ Q)))))) : wm_Wp 0 63 14 [.ref 18, .int x1, .int x2, .int x3, .null, .null] μ Q := wm_vc mo_63 (rt := some .int) (by decide +kernel) mc_63 130 h
-- WindBoat$Rules.ruling(I)I, the place 38
set_option maxRecDepth 100000 in
set_option maxHeartbeats 8000000 in
theorem f_63_38 (x1 : Int32) (x2 : Int32) (x3 : Int32) (μ : wm_M) (Q : Option Value → wm_M → Prop) (h : (vp_in x3 12 ∧ (((μ.1 21 (x3).toNatClampNeg) ≤ x2 → wm_Wp 0 63 85 [.ref 18, .int x1, .int x2, .int x3, .null, .null] μ Q) ∧ (¬ (μ.1 21 (x3).toNatClampNeg) ≤ x2 → (vp_in x3 12 ∧ (vp_in x3 12 ∧ wm_Wp 0 63 64 [.ref 18, .int x1, .int x2, .int x3, .int (μ.1 22 (x3).toNatClampNeg), .int (μ.1 23 (x3).toNatClampNeg)] μ Q)))))) : wm_Wp 0 63 38 [.ref 18, .int x1, .int x2, .int x3, .null, .null] μ Q := wm_vc mo_63 (rt := some .int) (by decide +kernel) mc_63 130 h
-- WindBoat$Rules.ruling(I)I, the place 64
set_option maxRecDepth 100000 in
set_option maxHeartbeats 8000000 in
theorem f_63_64 (x1 : Int32) (x2 : Int32) (x3 : Int32) (x4 : Int32) (x5 : Int32) (μ : wm_M) (Q : Option Value → wm_M → Prop) (h : ((x4 = x5 → wm_Wp 0 63 83 [.null, .null, .null, .int x3, .null, .null] μ Q) ∧ (¬ x4 = x5 → wm_OkI 0 65 [.ref 18, .int x3, .int x4, .int x5] μ (fun r2 μ1 => ((r2 = (0 : Int32) → wm_Wp 0 63 85 [.ref 18, .int x1, .int x2, .int x3, .null, .null] μ1 Q) ∧ (¬ r2 = (0 : Int32) → wm_Wp 0 63 83 [.null, .null, .null, .int x3, .null, .null] μ1 Q)))))) : wm_Wp 0 63 64 [.ref 18, .int x1, .int x2, .int x3, .int x4, .int x5] μ Q := wm_vc mo_63 (rt := some .int) (by decide +kernel) mc_63 130 h
-- WindBoat$Rules.ruling(I)I, the place 83
set_option maxRecDepth 100000 in
set_option maxHeartbeats 8000000 in
theorem f_63_83 (x3 : Int32) (μ : wm_M) (Q : Option Value → wm_M → Prop) (h : Q (some (.int x3)) μ) : wm_Wp 0 63 83 [.null, .null, .null, .int x3, .null, .null] μ Q := wm_vc mo_63 (rt := some .int) (by decide +kernel) mc_63 130 h
-- WindBoat$Rules.ruling(I)I, the place 85
set_option maxRecDepth 100000 in
set_option maxHeartbeats 8000000 in
theorem f_63_85 (x1 : Int32) (x2 : Int32) (x3 : Int32) (μ : wm_M) (Q : Option Value → wm_M → Prop) (h : wm_Wp 0 63 14 [.ref 18, .int x1, .int x2, .int (x3 + (-1 : Int32)), .null, .null] μ Q) : wm_Wp 0 63 85 [.ref 18, .int x1, .int x2, .int x3, .null, .null] μ Q := wm_vc mo_63 (rt := some .int) (by decide +kernel) mc_63 130 h
-- WindBoat$Rules.ruling(I)I, the place 91
set_option maxRecDepth 100000 in
set_option maxHeartbeats 8000000 in
theorem f_63_91 (μ : wm_M) (Q : Option Value → wm_M → Prop) (h : Q (some (.int (-1 : Int32))) μ) : wm_Wp 0 63 91 [.null, .null, .null, .null, .null, .null] μ Q := wm_vc mo_63 (rt := some .int) (by decide +kernel) mc_63 130 h
-- WindBoat$Rules.answer(I)I
set_option maxRecDepth 100000 in
set_option maxHeartbeats 8000000 in
theorem f_64 (a1 : Int32) (μ : wm_M) (Q : Option Value → wm_M → Prop) (h : wm_OkI 0 63 [.ref 18, .int a1] μ (fun r2 μ1 => wm_Wp 0 64 6 [.ref 18, .int a1, .int r2] μ1 Q)) : wm_Ok 0 64 [.ref 18, .int a1] μ Q := wm_ent (nL := 3) (l := [.ref 18, .int a1, .null]) (by decide +kernel) (by decide +kernel) (by decide +kernel) rfl rfl (wm_vc mo_64 (rt := some .int) (by decide +kernel) mc_64 60 h)
-- WindBoat$Rules.answer(I)I, the place 6
set_option maxRecDepth 100000 in
set_option maxHeartbeats 8000000 in
theorem f_64_6 (x1 : Int32) (x2 : Int32) (μ : wm_M) (Q : Option Value → wm_M → Prop) (h : ((x2 = (-1 : Int32) → (vp_in x1 3 ∧ Q (some (.int (([0, 39, 40] : List Int32).getD (x1).toNatClampNeg 0))) μ)) ∧ (¬ x2 = (-1 : Int32) → wm_Wp 0 64 19 [.ref 18, .null, .int x2] μ Q))) : wm_Wp 0 64 6 [.ref 18, .int x1, .int x2] μ Q := wm_vc mo_64 (rt := some .int) (by decide +kernel) mc_64 60 h
-- WindBoat$Rules.answer(I)I, the place 19
set_option maxRecDepth 100000 in
set_option maxHeartbeats 8000000 in
theorem f_64_19 (x2 : Int32) (μ : wm_M) (Q : Option Value → wm_M → Prop) (h : (vp_in x2 12 ∧ wm_OkI 0 65 [.ref 18, .int x2, .int (0 : Int32), .int (μ.1 22 (x2).toNatClampNeg)] μ (fun r2 μ1 => Q (some (.int r2)) μ1))) : wm_Wp 0 64 19 [.ref 18, .null, .int x2] μ Q := wm_vc mo_64 (rt := some .int) (by decide +kernel) mc_64 60 h
-- WindBoat$Rules.work(III)I
set_option maxRecDepth 100000 in
set_option maxHeartbeats 8000000 in
theorem f_65 (a1 : Int32) (a2 : Int32) (a3 : Int32) (μ : wm_M) (Q : Option Value → wm_M → Prop) (h : wm_Wp 0 65 6 [.ref 18, .int a1, .null, .int a3, .int (0 : Int32), .int a2, .null] μ Q) : wm_Ok 0 65 [.ref 18, .int a1, .int a2, .int a3] μ Q := wm_ent (nL := 7) (l := [.ref 18, .int a1, .int a2, .int a3, .null, .null, .null]) (by decide +kernel) (by decide +kernel) (by decide +kernel) rfl rfl (wm_vc mo_65 (rt := some .int) (by decide +kernel) mc_65 236 h)
-- WindBoat$Rules.work(III)I, the place 6
set_option maxRecDepth 100000 in
set_option maxHeartbeats 8000000 in
theorem f_65_6 (x1 : Int32) (x3 : Int32) (x4 : Int32) (x5 : Int32) (μ : wm_M) (Q : Option Value → wm_M → Prop) (h : ((x3 ≤ x5 → wm_Wp 0 65 191 [.ref 18, .null, .null, .null, .null, .null, .null] μ Q) ∧ (¬ x3 ≤ x5 → (vp_in ((x1 * (120 : Int32)) + x5) 1440 ∧ wm_Wp 0 65 26 [.ref 18, .int x1, .null, .int x3, .int x4, .int x5, .int (μ.1 24 (((x1 * (120 : Int32)) + x5)).toNatClampNeg)] μ Q)))) : wm_Wp 0 65 6 [.ref 18, .int x1, .null, .int x3, .int x4, .int x5, .null] μ Q := wm_vc mo_65 (rt := some .int) (by decide +kernel) mc_65 236 h
-- WindBoat$Rules.work(III)I, the place 26
set_option maxRecDepth 100000 in
set_option maxHeartbeats 8000000 in
theorem f_65_26 (x1 : Int32) (x3 : Int32) (x4 : Int32) (x5 : Int32) (x6 : Int32) (μ : wm_M) (Q : Option Value → wm_M → Prop) (h : ((x6 ≤ (-100 : Int32) → wm_Wp 0 65 65 [.ref 18, .int x1, .null, .int x3, .int x4, .int x5, .int x6] μ Q) ∧ (¬ x6 ≤ (-100 : Int32) → ((x6 < (0 : Int32) → (vp_in ((-1 : Int32) - x6) 6 ∧ (vp_in x4 120 ∧ wm_Wp 0 65 59 [.ref 18, .int x1, .null, .int x3, .int x4, .int x5, .null] (wm_si μ 26 (x4).toNatClampNeg (μ.1 25 (((-1 : Int32) - x6)).toNatClampNeg)) Q))) ∧ (¬ x6 < (0 : Int32) → (vp_in x4 120 ∧ wm_Wp 0 65 59 [.ref 18, .int x1, .null, .int x3, .int x4, .int x5, .null] (wm_si μ 26 (x4).toNatClampNeg x6) Q)))))) : wm_Wp 0 65 26 [.ref 18, .int x1, .null, .int x3, .int x4, .int x5, .int x6] μ Q := wm_vc mo_65 (rt := some .int) (by decide +kernel) mc_65 236 h
-- WindBoat$Rules.work(III)I, the place 59
set_option maxRecDepth 100000 in
set_option maxHeartbeats 8000000 in
theorem f_65_59 (x1 : Int32) (x3 : Int32) (x4 : Int32) (x5 : Int32) (μ : wm_M) (Q : Option Value → wm_M → Prop) (h : wm_Wp 0 65 185 [.ref 18, .int x1, .null, .int x3, .int (x4 + (1 : Int32)), .int x5, .null] μ Q) : wm_Wp 0 65 59 [.ref 18, .int x1, .null, .int x3, .int x4, .int x5, .null] μ Q := wm_vc mo_65 (rt := some .int) (by decide +kernel) mc_65 236 h
-- WindBoat$Rules.work(III)I, the place 65
set_option maxRecDepth 100000 in
set_option maxHeartbeats 8000000 in
theorem f_65_65 (x1 : Int32) (x3 : Int32) (x4 : Int32) (x5 : Int32) (x6 : Int32) (μ : wm_M) (Q : Option Value → wm_M → Prop) (h : ((x6 = (-112 : Int32) → ((x4 ≤ (0 : Int32) → wm_Wp 0 65 109 [.ref 18, .int x1, .null, .int x3, .int x4, .int x5, .int x6] μ Q) ∧ (¬ x4 ≤ (0 : Int32) → (vp_in (x4 - (1 : Int32)) 120 ∧ (((μ.1 26 ((x4 - (1 : Int32))).toNatClampNeg) = (0 : Int32) → wm_OkI 0 177 [.int (1 : Int32)] μ (fun r2 μ1 => (vp_in (x4 - (1 : Int32)) 120 ∧ wm_Wp 0 65 106 [.ref 18, .int x1, .null, .int x3, .int x4, .int x5, .null] (wm_si μ1 26 ((x4 - (1 : Int32))).toNatClampNeg r2) Q))) ∧ (¬ (μ.1 26 ((x4 - (1 : Int32))).toNatClampNeg) = (0 : Int32) → wm_OkI 0 177 [.int (0 : Int32)] μ (fun r4 μ3 => (vp_in (x4 - (1 : Int32)) 120 ∧ wm_Wp 0 65 106 [.ref 18, .int x1, .null, .int x3, .int x4, .int x5, .null] (wm_si μ3 26 ((x4 - (1 : Int32))).toNatClampNeg r4) Q)))))))) ∧ (¬ x6 = (-112 : Int32) → wm_Wp 0 65 109 [.ref 18, .int x1, .null, .int x3, .int x4, .int x5, .int x6] μ Q))) : wm_Wp 0 65 65 [.ref 18, .int x1, .null, .int x3, .int x4, .int x5, .int x6] μ Q := wm_vc mo_65 (rt := some .int) (by decide +kernel) mc_65 236 h
-- WindBoat$Rules.work(III)I, the place 106
set_option maxRecDepth 100000 in
set_option maxHeartbeats 8000000 in
theorem f_65_106 (x1 : Int32) (x3 : Int32) (x4 : Int32) (x5 : Int32) (μ : wm_M) (Q : Option Value → wm_M → Prop) (h : wm_Wp 0 65 185 [.ref 18, .int x1, .null, .int x3, .int x4, .int x5, .null] μ Q) : wm_Wp 0 65 106 [.ref 18, .int x1, .null, .int x3, .int x4, .int x5, .null] μ Q := wm_vc mo_65 (rt := some .int) (by decide +kernel) mc_65 236 h
-- WindBoat$Rules.work(III)I, the place 109
set_option maxRecDepth 100000 in
set_option maxHeartbeats 8000000 in
theorem f_65_109 (x1 : Int32) (x3 : Int32) (x4 : Int32) (x5 : Int32) (x6 : Int32) (μ : wm_M) (Q : Option Value → wm_M → Prop) (h : ((x6 = (-101 : Int32) → ((x4 ≤ (0 : Int32) → wm_Wp 0 65 143 [.ref 18, .int x1, .null, .int x3, .int x4, .int x5, .int x6] μ Q) ∧ (¬ x4 ≤ (0 : Int32) → (vp_in (x4 - (1 : Int32)) 120 ∧ (vp_in (x4 - (1 : Int32)) 120 ∧ wm_Wp 0 65 140 [.ref 18, .int x1, .null, .int x3, .int x4, .int x5, .null] (wm_si μ 26 ((x4 - (1 : Int32))).toNatClampNeg (-(μ.1 26 ((x4 - (1 : Int32))).toNatClampNeg))) Q))))) ∧ (¬ x6 = (-101 : Int32) → wm_Wp 0 65 143 [.ref 18, .int x1, .null, .int x3, .int x4, .int x5, .int x6] μ Q))) : wm_Wp 0 65 109 [.ref 18, .int x1, .null, .int x3, .int x4, .int x5, .int x6] μ Q := wm_vc mo_65 (rt := some .int) (by decide +kernel) mc_65 236 h
-- WindBoat$Rules.work(III)I, the place 140
set_option maxRecDepth 100000 in
set_option maxHeartbeats 8000000 in
theorem f_65_140 (x1 : Int32) (x3 : Int32) (x4 : Int32) (x5 : Int32) (μ : wm_M) (Q : Option Value → wm_M → Prop) (h : wm_Wp 0 65 185 [.ref 18, .int x1, .null, .int x3, .int x4, .int x5, .null] μ Q) : wm_Wp 0 65 140 [.ref 18, .int x1, .null, .int x3, .int x4, .int x5, .null] μ Q := wm_vc mo_65 (rt := some .int) (by decide +kernel) mc_65 236 h
-- WindBoat$Rules.work(III)I, the place 143
set_option maxRecDepth 100000 in
set_option maxHeartbeats 8000000 in
theorem f_65_143 (x1 : Int32) (x3 : Int32) (x4 : Int32) (x5 : Int32) (x6 : Int32) (μ : wm_M) (Q : Option Value → wm_M → Prop) (h : ((x4 ≤ (1 : Int32) → wm_Wp 0 65 185 [.ref 18, .int x1, .null, .int x3, .int x4, .int x5, .null] μ Q) ∧ (¬ x4 ≤ (1 : Int32) → (vp_in ((x4 + (-1 : Int32)) - (1 : Int32)) 120 ∧ (vp_in (x4 + (-1 : Int32)) 120 ∧ wm_OkI 0 66 [.int ((-100 : Int32) - x6), .int (μ.1 26 (((x4 + (-1 : Int32)) - (1 : Int32))).toNatClampNeg), .int (μ.1 26 ((x4 + (-1 : Int32))).toNatClampNeg)] μ (fun r2 μ1 => (vp_in ((x4 + (-1 : Int32)) - (1 : Int32)) 120 ∧ wm_Wp 0 65 185 [.ref 18, .int x1, .null, .int x3, .int (x4 + (-1 : Int32)), .int x5, .null] (wm_si μ1 26 (((x4 + (-1 : Int32)) - (1 : Int32))).toNatClampNeg r2) Q))))))) : wm_Wp 0 65 143 [.ref 18, .int x1, .null, .int x3, .int x4, .int x5, .int x6] μ Q := wm_vc mo_65 (rt := some .int) (by decide +kernel) mc_65 236 h
-- WindBoat$Rules.work(III)I, the place 185
set_option maxRecDepth 100000 in
set_option maxHeartbeats 8000000 in
theorem f_65_185 (x1 : Int32) (x3 : Int32) (x4 : Int32) (x5 : Int32) (μ : wm_M) (Q : Option Value → wm_M → Prop) (h : wm_Wp 0 65 6 [.ref 18, .int x1, .null, .int x3, .int x4, .int (x5 + (1 : Int32)), .null] μ Q) : wm_Wp 0 65 185 [.ref 18, .int x1, .null, .int x3, .int x4, .int x5, .null] μ Q := wm_vc mo_65 (rt := some .int) (by decide +kernel) mc_65 236 h
-- WindBoat$Rules.work(III)I, the place 191
set_option maxRecDepth 100000 in
set_option maxHeartbeats 8000000 in
theorem f_65_191 (μ : wm_M) (Q : Option Value → wm_M → Prop) (h : (vp_in (0 : Int32) 120 ∧ Q (some (.int (μ.1 26 ((0 : Int32)).toNatClampNeg))) μ)) : wm_Wp 0 65 191 [.ref 18, .null, .null, .null, .null, .null, .null] μ Q := wm_vc mo_65 (rt := some .int) (by decide +kernel) mc_65 236 h
-- WindBoat$Rules.together(III)I
set_option maxRecDepth 100000 in
set_option maxHeartbeats 8000000 in
theorem f_66 (a0 : Int32) (a1 : Int32) (a2 : Int32) (μ : wm_M) (Q : Option Value → wm_M → Prop) (h : (((∀ q ∈ (#[(10, 83), (11, 100), (42, 167), (43, 159), (45, 163), (47, 171), (60, 131), (61, 117), (62, 145)] : Array (Int × Int)).toList, ¬ (a0).toInt = q.1) → wm_Wp 0 66 184 [.null, .int a1, .int a2] μ Q) ∧ (((a0).toInt = 10 → wm_Wp 0 66 84 [.null, .int a1, .int a2] μ Q) ∧ (((a0).toInt = 11 → wm_Wp 0 66 101 [.null, .int a1, .int a2] μ Q) ∧ (((a0).toInt = 42 → wm_Wp 0 66 168 [.null, .int a1, .int a2] μ Q) ∧ (((a0).toInt = 43 → wm_Wp 0 66 160 [.null, .int a1, .int a2] μ Q) ∧ (((a0).toInt = 45 → wm_Wp 0 66 164 [.null, .int a1, .int a2] μ Q) ∧ (((a0).toInt = 47 → wm_Wp 0 66 172 [.null, .int a1, .int a2] μ Q) ∧ (((a0).toInt = 60 → wm_Wp 0 66 132 [.null, .int a1, .int a2] μ Q) ∧ (((a0).toInt = 61 → wm_Wp 0 66 118 [.null, .int a1, .int a2] μ Q) ∧ (((a0).toInt = 62 → wm_Wp 0 66 146 [.null, .int a1, .int a2] μ Q) ∧ True))))))))))) : wm_Ok 0 66 [.int a0, .int a1, .int a2] μ Q := wm_ent (nL := 3) (l := [.int a0, .int a1, .int a2]) (by decide +kernel) (by decide +kernel) (by decide +kernel) rfl rfl (wm_vc mo_66 (rt := some .int) (by decide +kernel) mc_66 164 h)
-- WindBoat$Rules.together(III)I, the place 84
set_option maxRecDepth 100000 in
set_option maxHeartbeats 8000000 in
theorem f_66_84 (x1 : Int32) (x2 : Int32) (μ : wm_M) (Q : Option Value → wm_M → Prop) (h : ((x1 = (0 : Int32) → ((x2 = (0 : Int32) → wm_Wp 0 66 96 [.null, .null, .null] μ Q) ∧ (¬ x2 = (0 : Int32) → wm_Wp 0 66 92 [.null, .null, .null] μ Q))) ∧ (¬ x1 = (0 : Int32) → wm_Wp 0 66 92 [.null, .null, .null] μ Q))) : wm_Wp 0 66 84 [.null, .int x1, .int x2] μ Q := wm_vc mo_66 (rt := some .int) (by decide +kernel) mc_66 164 h
-- WindBoat$Rules.together(III)I, the place 92
set_option maxRecDepth 100000 in
set_option maxHeartbeats 8000000 in
theorem f_66_92 (μ : wm_M) (Q : Option Value → wm_M → Prop) (h : wm_OkI 0 177 [.int (1 : Int32)] μ (fun r2 μ1 => Q (some (.int r2)) μ1)) : wm_Wp 0 66 92 [.null, .null, .null] μ Q := wm_vc mo_66 (rt := some .int) (by decide +kernel) mc_66 164 h
-- WindBoat$Rules.together(III)I, the place 96
set_option maxRecDepth 100000 in
set_option maxHeartbeats 8000000 in
theorem f_66_96 (μ : wm_M) (Q : Option Value → wm_M → Prop) (h : wm_OkI 0 177 [.int (0 : Int32)] μ (fun r2 μ1 => Q (some (.int r2)) μ1)) : wm_Wp 0 66 96 [.null, .null, .null] μ Q := wm_vc mo_66 (rt := some .int) (by decide +kernel) mc_66 164 h
-- WindBoat$Rules.together(III)I, the place 101
set_option maxRecDepth 100000 in
set_option maxHeartbeats 8000000 in
theorem f_66_101 (x1 : Int32) (x2 : Int32) (μ : wm_M) (Q : Option Value → wm_M → Prop) (h : ((x1 = (0 : Int32) → wm_Wp 0 66 113 [.null, .null, .null] μ Q) ∧ (¬ x1 = (0 : Int32) → ((x2 = (0 : Int32) → wm_Wp 0 66 113 [.null, .null, .null] μ Q) ∧ (¬ x2 = (0 : Int32) → wm_OkI 0 177 [.int (1 : Int32)] μ (fun r2 μ1 => Q (some (.int r2)) μ1)))))) : wm_Wp 0 66 101 [.null, .int x1, .int x2] μ Q := wm_vc mo_66 (rt := some .int) (by decide +kernel) mc_66 164 h
-- WindBoat$Rules.together(III)I, the place 113
set_option maxRecDepth 100000 in
set_option maxHeartbeats 8000000 in
theorem f_66_113 (μ : wm_M) (Q : Option Value → wm_M → Prop) (h : wm_OkI 0 177 [.int (0 : Int32)] μ (fun r2 μ1 => Q (some (.int r2)) μ1)) : wm_Wp 0 66 113 [.null, .null, .null] μ Q := wm_vc mo_66 (rt := some .int) (by decide +kernel) mc_66 164 h
-- WindBoat$Rules.together(III)I, the place 118
set_option maxRecDepth 100000 in
set_option maxHeartbeats 8000000 in
theorem f_66_118 (x1 : Int32) (x2 : Int32) (μ : wm_M) (Q : Option Value → wm_M → Prop) (h : ((x1 = x2 → wm_OkI 0 177 [.int (1 : Int32)] μ (fun r2 μ1 => Q (some (.int r2)) μ1)) ∧ (¬ x1 = x2 → wm_Wp 0 66 127 [.null, .null, .null] μ Q))) : wm_Wp 0 66 118 [.null, .int x1, .int x2] μ Q := wm_vc mo_66 (rt := some .int) (by decide +kernel) mc_66 164 h
-- WindBoat$Rules.together(III)I, the place 127
set_option maxRecDepth 100000 in
set_option maxHeartbeats 8000000 in
theorem f_66_127 (μ : wm_M) (Q : Option Value → wm_M → Prop) (h : wm_OkI 0 177 [.int (0 : Int32)] μ (fun r2 μ1 => Q (some (.int r2)) μ1)) : wm_Wp 0 66 127 [.null, .null, .null] μ Q := wm_vc mo_66 (rt := some .int) (by decide +kernel) mc_66 164 h
-- WindBoat$Rules.together(III)I, the place 132
set_option maxRecDepth 100000 in
set_option maxHeartbeats 8000000 in
theorem f_66_132 (x1 : Int32) (x2 : Int32) (μ : wm_M) (Q : Option Value → wm_M → Prop) (h : ((x2 ≤ x1 → wm_Wp 0 66 141 [.null, .null, .null] μ Q) ∧ (¬ x2 ≤ x1 → wm_OkI 0 177 [.int (1 : Int32)] μ (fun r2 μ1 => Q (some (.int r2)) μ1)))) : wm_Wp 0 66 132 [.null, .int x1, .int x2] μ Q := wm_vc mo_66 (rt := some .int) (by decide +kernel) mc_66 164 h
-- WindBoat$Rules.together(III)I, the place 141
set_option maxRecDepth 100000 in
set_option maxHeartbeats 8000000 in
theorem f_66_141 (μ : wm_M) (Q : Option Value → wm_M → Prop) (h : wm_OkI 0 177 [.int (0 : Int32)] μ (fun r2 μ1 => Q (some (.int r2)) μ1)) : wm_Wp 0 66 141 [.null, .null, .null] μ Q := wm_vc mo_66 (rt := some .int) (by decide +kernel) mc_66 164 h
-- WindBoat$Rules.together(III)I, the place 146
set_option maxRecDepth 100000 in
set_option maxHeartbeats 8000000 in
theorem f_66_146 (x1 : Int32) (x2 : Int32) (μ : wm_M) (Q : Option Value → wm_M → Prop) (h : ((x1 ≤ x2 → wm_Wp 0 66 155 [.null, .null, .null] μ Q) ∧ (¬ x1 ≤ x2 → wm_OkI 0 177 [.int (1 : Int32)] μ (fun r2 μ1 => Q (some (.int r2)) μ1)))) : wm_Wp 0 66 146 [.null, .int x1, .int x2] μ Q := wm_vc mo_66 (rt := some .int) (by decide +kernel) mc_66 164 h
-- WindBoat$Rules.together(III)I, the place 155
set_option maxRecDepth 100000 in
set_option maxHeartbeats 8000000 in
theorem f_66_155 (μ : wm_M) (Q : Option Value → wm_M → Prop) (h : wm_OkI 0 177 [.int (0 : Int32)] μ (fun r2 μ1 => Q (some (.int r2)) μ1)) : wm_Wp 0 66 155 [.null, .null, .null] μ Q := wm_vc mo_66 (rt := some .int) (by decide +kernel) mc_66 164 h
-- WindBoat$Rules.together(III)I, the place 160
set_option maxRecDepth 100000 in
set_option maxHeartbeats 8000000 in
theorem f_66_160 (x1 : Int32) (x2 : Int32) (μ : wm_M) (Q : Option Value → wm_M → Prop) (h : Q (some (.int (x1 + x2))) μ) : wm_Wp 0 66 160 [.null, .int x1, .int x2] μ Q := wm_vc mo_66 (rt := some .int) (by decide +kernel) mc_66 164 h
-- WindBoat$Rules.together(III)I, the place 164
set_option maxRecDepth 100000 in
set_option maxHeartbeats 8000000 in
theorem f_66_164 (x1 : Int32) (x2 : Int32) (μ : wm_M) (Q : Option Value → wm_M → Prop) (h : Q (some (.int (x1 - x2))) μ) : wm_Wp 0 66 164 [.null, .int x1, .int x2] μ Q := wm_vc mo_66 (rt := some .int) (by decide +kernel) mc_66 164 h
-- WindBoat$Rules.together(III)I, the place 168
set_option maxRecDepth 100000 in
set_option maxHeartbeats 8000000 in
theorem f_66_168 (x1 : Int32) (x2 : Int32) (μ : wm_M) (Q : Option Value → wm_M → Prop) (h : Q (some (.int (x1 * x2))) μ) : wm_Wp 0 66 168 [.null, .int x1, .int x2] μ Q := wm_vc mo_66 (rt := some .int) (by decide +kernel) mc_66 164 h
-- WindBoat$Rules.together(III)I, the place 172
set_option maxRecDepth 100000 in
set_option maxHeartbeats 8000000 in
theorem f_66_172 (x1 : Int32) (x2 : Int32) (μ : wm_M) (Q : Option Value → wm_M → Prop) (h : ((x2 = (0 : Int32) → Q (some (.int (0 : Int32))) μ) ∧ (¬ x2 = (0 : Int32) → wm_Wp 0 66 180 [.null, .int x1, .int x2] μ Q))) : wm_Wp 0 66 172 [.null, .int x1, .int x2] μ Q := wm_vc mo_66 (rt := some .int) (by decide +kernel) mc_66 164 h
-- WindBoat$Rules.together(III)I, the place 180
set_option maxRecDepth 100000 in
set_option maxHeartbeats 8000000 in
theorem f_66_180 (x1 : Int32) (x2 : Int32) (μ : wm_M) (Q : Option Value → wm_M → Prop) (h : (¬ x2 = 0 ∧ Q (some (.int (x1 / x2))) μ)) : wm_Wp 0 66 180 [.null, .int x1, .int x2] μ Q := wm_vc mo_66 (rt := some .int) (by decide +kernel) mc_66 164 h
-- WindBoat$Rules.together(III)I, the place 184
set_option maxRecDepth 100000 in
set_option maxHeartbeats 8000000 in
theorem f_66_184 (x1 : Int32) (x2 : Int32) (μ : wm_M) (Q : Option Value → wm_M → Prop) (h : ((x2 = (0 : Int32) → Q (some (.int (0 : Int32))) μ) ∧ (¬ x2 = (0 : Int32) → wm_Wp 0 66 192 [.null, .int x1, .int x2] μ Q))) : wm_Wp 0 66 184 [.null, .int x1, .int x2] μ Q := wm_vc mo_66 (rt := some .int) (by decide +kernel) mc_66 164 h
-- WindBoat$Rules.together(III)I, the place 192
set_option maxRecDepth 100000 in
set_option maxHeartbeats 8000000 in
theorem f_66_192 (x1 : Int32) (x2 : Int32) (μ : wm_M) (Q : Option Value → wm_M → Prop) (h : (¬ x2 = 0 ∧ Q (some (.int (x1 - x1 / x2 * x2))) μ)) : wm_Wp 0 66 192 [.null, .int x1, .int x2] μ Q := wm_vc mo_66 (rt := some .int) (by decide +kernel) mc_66 164 h
-- WindBoat$Sea.take(LWindBoat$Sea;)V
set_option maxRecDepth 100000 in
set_option maxHeartbeats 8000000 in
theorem f_68b (μ : wm_M) (Q : Option Value → wm_M → Prop) (h : (¬ (0 : Int32) < 0 ∧ ¬ (0 : Int32) < 0 ∧ ¬ (36 : Int32) < 0 ∧ ((0 : Int32)).toNatClampNeg + ((36 : Int32)).toNatClampNeg ≤ 36 ∧ ((0 : Int32)).toNatClampNeg + ((36 : Int32)).toNatClampNeg ≤ 36 ∧ (∀ i, i < ((36 : Int32)).toNatClampNeg → μ.1 32 (((0 : Int32)).toNatClampNeg + i) = 0 ∨ μ.1 32 (((0 : Int32)).toNatClampNeg + i) = 1) ∧ ∀ μ1, μ1 = wm_sr μ 3 (va_cpy (μ.1 32) (μ.1 3) ((0 : Int32)).toNatClampNeg ((0 : Int32)).toNatClampNeg ((36 : Int32)).toNatClampNeg) → wm_Wp 0 68 15 [.ref 2, .ref 31] μ1 Q)) : wm_Ok 0 68 [.ref 2, .ref 31] μ Q := wm_ent (nL := 2) (l := [.ref 2, .ref 31]) (by decide +kernel) (by decide +kernel) (by decide +kernel) rfl rfl (wm_vc mo_68 (rt := none) (by decide +kernel) mc_68 94 h)
-- WindBoat$Sea.take(LWindBoat$Sea;)V, the place 15
set_option maxRecDepth 100000 in
set_option maxHeartbeats 8000000 in
theorem f_68_15b (μ : wm_M) (Q : Option Value → wm_M → Prop) (h : (¬ (0 : Int32) < 0 ∧ ¬ (0 : Int32) < 0 ∧ ¬ (36 : Int32) < 0 ∧ ((0 : Int32)).toNatClampNeg + ((36 : Int32)).toNatClampNeg ≤ 36 ∧ ((0 : Int32)).toNatClampNeg + ((36 : Int32)).toNatClampNeg ≤ 36 ∧ ∀ μ1, μ1 = wm_sr μ 4 (va_cpy (μ.1 33) (μ.1 4) ((0 : Int32)).toNatClampNeg ((0 : Int32)).toNatClampNeg ((36 : Int32)).toNatClampNeg) → wm_Wp 0 68 30 [.ref 2, .ref 31] μ1 Q)) : wm_Wp 0 68 15 [.ref 2, .ref 31] μ Q := wm_vc mo_68 (rt := none) (by decide +kernel) mc_68 94 h
-- WindBoat$Sea.take(LWindBoat$Sea;)V, the place 30
set_option maxRecDepth 100000 in
set_option maxHeartbeats 8000000 in
theorem f_68_30b (μ : wm_M) (Q : Option Value → wm_M → Prop) (h : (¬ (0 : Int32) < 0 ∧ ¬ (0 : Int32) < 0 ∧ ¬ (84 : Int32) < 0 ∧ ((0 : Int32)).toNatClampNeg + ((84 : Int32)).toNatClampNeg ≤ 84 ∧ ((0 : Int32)).toNatClampNeg + ((84 : Int32)).toNatClampNeg ≤ 84 ∧ ∀ μ1, μ1 = wm_sr μ 5 (va_cpy (μ.1 34) (μ.1 5) ((0 : Int32)).toNatClampNeg ((0 : Int32)).toNatClampNeg ((84 : Int32)).toNatClampNeg) → wm_Wp 0 68 45 [.ref 2, .ref 31] μ1 Q)) : wm_Wp 0 68 30 [.ref 2, .ref 31] μ Q := wm_vc mo_68 (rt := none) (by decide +kernel) mc_68 94 h
-- WindBoat$Sea.take(LWindBoat$Sea;)V, the place 45
set_option maxRecDepth 100000 in
set_option maxHeartbeats 8000000 in
theorem f_68_45b (μ : wm_M) (Q : Option Value → wm_M → Prop) (h : (¬ (0 : Int32) < 0 ∧ ¬ (0 : Int32) < 0 ∧ ¬ (84 : Int32) < 0 ∧ ((0 : Int32)).toNatClampNeg + ((84 : Int32)).toNatClampNeg ≤ 84 ∧ ((0 : Int32)).toNatClampNeg + ((84 : Int32)).toNatClampNeg ≤ 84 ∧ ∀ μ1, μ1 = wm_sr μ 6 (va_cpy (μ.1 35) (μ.1 6) ((0 : Int32)).toNatClampNeg ((0 : Int32)).toNatClampNeg ((84 : Int32)).toNatClampNeg) → wm_Wp 0 68 60 [.ref 2, .ref 31] μ1 Q)) : wm_Wp 0 68 45 [.ref 2, .ref 31] μ Q := wm_vc mo_68 (rt := none) (by decide +kernel) mc_68 94 h
-- WindBoat$Sea.take(LWindBoat$Sea;)V, the place 60
set_option maxRecDepth 100000 in
set_option maxHeartbeats 8000000 in
theorem f_68_60b (μ : wm_M) (Q : Option Value → wm_M → Prop) (h : wm_Wp 0 68 68 [.null, .null] (wm_si μ 2 4 (μ.1 31 4)) Q) : wm_Wp 0 68 60 [.ref 2, .ref 31] μ Q := wm_vc mo_68 (rt := none) (by decide +kernel) mc_68 94 h
-- WindBoat$Sea.take(LWindBoat$Sea;)V, the place 68
set_option maxRecDepth 100000 in
set_option maxHeartbeats 8000000 in
theorem f_68_68b (μ : wm_M) (Q : Option Value → wm_M → Prop) (h : Q none μ) : wm_Wp 0 68 68 [.null, .null] μ Q := wm_vc mo_68 (rt := none) (by decide +kernel) mc_68 94 h
-- WindBoat$Sea.take(LWindBoat$Sea;)V
set_option maxRecDepth 100000 in
set_option maxHeartbeats 8000000 in
theorem f_68i (μ : wm_M) (Q : Option Value → wm_M → Prop) (h : (¬ (0 : Int32) < 0 ∧ ¬ (0 : Int32) < 0 ∧ ¬ (36 : Int32) < 0 ∧ ((0 : Int32)).toNatClampNeg + ((36 : Int32)).toNatClampNeg ≤ 36 ∧ ((0 : Int32)).toNatClampNeg + ((36 : Int32)).toNatClampNeg ≤ 36 ∧ (∀ i, i < ((36 : Int32)).toNatClampNeg → μ.1 3 (((0 : Int32)).toNatClampNeg + i) = 0 ∨ μ.1 3 (((0 : Int32)).toNatClampNeg + i) = 1) ∧ ∀ μ1, μ1 = wm_sr μ 32 (va_cpy (μ.1 3) (μ.1 32) ((0 : Int32)).toNatClampNeg ((0 : Int32)).toNatClampNeg ((36 : Int32)).toNatClampNeg) → wm_Wp 0 68 15 [.ref 31, .ref 2] μ1 Q)) : wm_Ok 0 68 [.ref 31, .ref 2] μ Q := wm_ent (nL := 2) (l := [.ref 31, .ref 2]) (by decide +kernel) (by decide +kernel) (by decide +kernel) rfl rfl (wm_vc mo_68 (rt := none) (by decide +kernel) mc_68 94 h)
-- WindBoat$Sea.take(LWindBoat$Sea;)V, the place 15
set_option maxRecDepth 100000 in
set_option maxHeartbeats 8000000 in
theorem f_68_15i (μ : wm_M) (Q : Option Value → wm_M → Prop) (h : (¬ (0 : Int32) < 0 ∧ ¬ (0 : Int32) < 0 ∧ ¬ (36 : Int32) < 0 ∧ ((0 : Int32)).toNatClampNeg + ((36 : Int32)).toNatClampNeg ≤ 36 ∧ ((0 : Int32)).toNatClampNeg + ((36 : Int32)).toNatClampNeg ≤ 36 ∧ ∀ μ1, μ1 = wm_sr μ 33 (va_cpy (μ.1 4) (μ.1 33) ((0 : Int32)).toNatClampNeg ((0 : Int32)).toNatClampNeg ((36 : Int32)).toNatClampNeg) → wm_Wp 0 68 30 [.ref 31, .ref 2] μ1 Q)) : wm_Wp 0 68 15 [.ref 31, .ref 2] μ Q := wm_vc mo_68 (rt := none) (by decide +kernel) mc_68 94 h
-- WindBoat$Sea.take(LWindBoat$Sea;)V, the place 30
set_option maxRecDepth 100000 in
set_option maxHeartbeats 8000000 in
theorem f_68_30i (μ : wm_M) (Q : Option Value → wm_M → Prop) (h : (¬ (0 : Int32) < 0 ∧ ¬ (0 : Int32) < 0 ∧ ¬ (84 : Int32) < 0 ∧ ((0 : Int32)).toNatClampNeg + ((84 : Int32)).toNatClampNeg ≤ 84 ∧ ((0 : Int32)).toNatClampNeg + ((84 : Int32)).toNatClampNeg ≤ 84 ∧ ∀ μ1, μ1 = wm_sr μ 34 (va_cpy (μ.1 5) (μ.1 34) ((0 : Int32)).toNatClampNeg ((0 : Int32)).toNatClampNeg ((84 : Int32)).toNatClampNeg) → wm_Wp 0 68 45 [.ref 31, .ref 2] μ1 Q)) : wm_Wp 0 68 30 [.ref 31, .ref 2] μ Q := wm_vc mo_68 (rt := none) (by decide +kernel) mc_68 94 h
-- WindBoat$Sea.take(LWindBoat$Sea;)V, the place 45
set_option maxRecDepth 100000 in
set_option maxHeartbeats 8000000 in
theorem f_68_45i (μ : wm_M) (Q : Option Value → wm_M → Prop) (h : (¬ (0 : Int32) < 0 ∧ ¬ (0 : Int32) < 0 ∧ ¬ (84 : Int32) < 0 ∧ ((0 : Int32)).toNatClampNeg + ((84 : Int32)).toNatClampNeg ≤ 84 ∧ ((0 : Int32)).toNatClampNeg + ((84 : Int32)).toNatClampNeg ≤ 84 ∧ ∀ μ1, μ1 = wm_sr μ 35 (va_cpy (μ.1 6) (μ.1 35) ((0 : Int32)).toNatClampNeg ((0 : Int32)).toNatClampNeg ((84 : Int32)).toNatClampNeg) → wm_Wp 0 68 60 [.ref 31, .ref 2] μ1 Q)) : wm_Wp 0 68 45 [.ref 31, .ref 2] μ Q := wm_vc mo_68 (rt := none) (by decide +kernel) mc_68 94 h
-- WindBoat$Sea.take(LWindBoat$Sea;)V, the place 60
set_option maxRecDepth 100000 in
set_option maxHeartbeats 8000000 in
theorem f_68_60i (μ : wm_M) (Q : Option Value → wm_M → Prop) (h : wm_Wp 0 68 68 [.null, .null] (wm_si μ 31 4 (μ.1 2 4)) Q) : wm_Wp 0 68 60 [.ref 31, .ref 2] μ Q := wm_vc mo_68 (rt := none) (by decide +kernel) mc_68 94 h
-- WindBoat$Sea.take(LWindBoat$Sea;)V, the place 68
set_option maxRecDepth 100000 in
set_option maxHeartbeats 8000000 in
theorem f_68_68i (μ : wm_M) (Q : Option Value → wm_M → Prop) (h : Q none μ) : wm_Wp 0 68 68 [.null, .null] μ Q := wm_vc mo_68 (rt := none) (by decide +kernel) mc_68 94 h
-- WindBoat$Sea.isTold(II)Z
set_option maxRecDepth 100000 in
set_option maxHeartbeats 8000000 in
theorem f_69 (a1 : Int32) (a2 : Int32) (μ : wm_M) (Q : Option Value → wm_M → Prop) (h : (vp_in ((a1 * (12 : Int32)) + a2) 84 ∧ (((μ.1 6 (((a1 * (12 : Int32)) + a2)).toNatClampNeg) = (-1 : Int32) → wm_Wp 0 69 19 [.null, .null, .null] μ Q) ∧ (¬ (μ.1 6 (((a1 * (12 : Int32)) + a2)).toNatClampNeg) = (-1 : Int32) → (((1 : Int32) = 0 ∨ (1 : Int32) = 1) ∧ Q (some (.int (1 : Int32))) μ))))) : wm_Ok 0 69 [.ref 2, .int a1, .int a2] μ Q := wm_ent (nL := 3) (l := [.ref 2, .int a1, .int a2]) (by decide +kernel) (by decide +kernel) (by decide +kernel) rfl rfl (wm_vc mo_69 (rt := some .boolean) (by decide +kernel) mc_69 48 h)
-- WindBoat$Sea.isTold(II)Z, the place 19
set_option maxRecDepth 100000 in
set_option maxHeartbeats 8000000 in
theorem f_69_19 (μ : wm_M) (Q : Option Value → wm_M → Prop) (h : (((0 : Int32) = 0 ∨ (0 : Int32) = 1) ∧ Q (some (.int (0 : Int32))) μ)) : wm_Wp 0 69 19 [.null, .null, .null] μ Q := wm_vc mo_69 (rt := some .boolean) (by decide +kernel) mc_69 48 h
-- WindBoat$Sea.lastTold(II)I
set_option maxRecDepth 100000 in
set_option maxHeartbeats 8000000 in
theorem f_70 (a1 : Int32) (a2 : Int32) (μ : wm_M) (Q : Option Value → wm_M → Prop) (h : wm_Wp 0 70 2 [.ref 2, .int a1, .null, .int a2] μ Q) : wm_Ok 0 70 [.ref 2, .int a1, .int a2] μ Q := wm_ent (nL := 4) (l := [.ref 2, .int a1, .int a2, .null]) (by decide +kernel) (by decide +kernel) (by decide +kernel) rfl rfl (wm_vc mo_70 (rt := some .int) (by decide +kernel) mc_70 58 h)
-- WindBoat$Sea.lastTold(II)I, the place 2
set_option maxRecDepth 100000 in
set_option maxHeartbeats 8000000 in
theorem f_70_2 (x1 : Int32) (x3 : Int32) (μ : wm_M) (Q : Option Value → wm_M → Prop) (h : ((x3 < (0 : Int32) → wm_Wp 0 70 28 [.null, .null, .null, .null] μ Q) ∧ (¬ x3 < (0 : Int32) → wm_OkI 0 69 [.ref 2, .int x1, .int x3] μ (fun r2 μ1 => ((r2 = (0 : Int32) → wm_Wp 0 70 22 [.ref 2, .int x1, .null, .int x3] μ1 Q) ∧ (¬ r2 = (0 : Int32) → wm_Wp 0 70 15 [.null, .int x1, .null, .int x3] μ1 Q)))))) : wm_Wp 0 70 2 [.ref 2, .int x1, .null, .int x3] μ Q := wm_vc mo_70 (rt := some .int) (by decide +kernel) mc_70 58 h
-- WindBoat$Sea.lastTold(II)I, the place 15
set_option maxRecDepth 100000 in
set_option maxHeartbeats 8000000 in
theorem f_70_15 (x1 : Int32) (x3 : Int32) (μ : wm_M) (Q : Option Value → wm_M → Prop) (h : Q (some (.int ((x1 * (12 : Int32)) + x3))) μ) : wm_Wp 0 70 15 [.null, .int x1, .null, .int x3] μ Q := wm_vc mo_70 (rt := some .int) (by decide +kernel) mc_70 58 h
-- WindBoat$Sea.lastTold(II)I, the place 22
set_option maxRecDepth 100000 in
set_option maxHeartbeats 8000000 in
theorem f_70_22 (x1 : Int32) (x3 : Int32) (μ : wm_M) (Q : Option Value → wm_M → Prop) (h : wm_Wp 0 70 2 [.ref 2, .int x1, .null, .int (x3 + (-1 : Int32))] μ Q) : wm_Wp 0 70 22 [.ref 2, .int x1, .null, .int x3] μ Q := wm_vc mo_70 (rt := some .int) (by decide +kernel) mc_70 58 h
-- WindBoat$Sea.lastTold(II)I, the place 28
set_option maxRecDepth 100000 in
set_option maxHeartbeats 8000000 in
theorem f_70_28 (μ : wm_M) (Q : Option Value → wm_M → Prop) (h : Q (some (.int (-1 : Int32))) μ) : wm_Wp 0 70 28 [.null, .null, .null, .null] μ Q := wm_vc mo_70 (rt := some .int) (by decide +kernel) mc_70 58 h
-- WindBoat$Sea.fromIn(II)I
set_option maxRecDepth 100000 in
set_option maxHeartbeats 8000000 in
theorem f_71 (a1 : Int32) (a2 : Int32) (μ : wm_M) (Q : Option Value → wm_M → Prop) (h : wm_OkI 0 70 [.ref 2, .int a1, .int a2] μ (fun r2 μ1 => wm_Wp 0 71 7 [.ref 2, .null, .null, .int r2] μ1 Q)) : wm_Ok 0 71 [.ref 2, .int a1, .int a2] μ Q := wm_ent (nL := 4) (l := [.ref 2, .int a1, .int a2, .null]) (by decide +kernel) (by decide +kernel) (by decide +kernel) rfl rfl (wm_vc mo_71 (rt := some .int) (by decide +kernel) mc_71 50 h)
-- WindBoat$Sea.fromIn(II)I, the place 7
set_option maxRecDepth 100000 in
set_option maxHeartbeats 8000000 in
theorem f_71_7 (x3 : Int32) (μ : wm_M) (Q : Option Value → wm_M → Prop) (h : ((x3 = (-1 : Int32) → Q (some (.int (0 : Int32))) μ) ∧ (¬ x3 = (-1 : Int32) → wm_Wp 0 71 16 [.ref 2, .null, .null, .int x3] μ Q))) : wm_Wp 0 71 7 [.ref 2, .null, .null, .int x3] μ Q := wm_vc mo_71 (rt := some .int) (by decide +kernel) mc_71 50 h
-- WindBoat$Sea.fromIn(II)I, the place 16
set_option maxRecDepth 100000 in
set_option maxHeartbeats 8000000 in
theorem f_71_16 (x3 : Int32) (μ : wm_M) (Q : Option Value → wm_M → Prop) (h : (vp_in x3 84 ∧ Q (some (.int (μ.1 5 (x3).toNatClampNeg))) μ)) : wm_Wp 0 71 16 [.ref 2, .null, .null, .int x3] μ Q := wm_vc mo_71 (rt := some .int) (by decide +kernel) mc_71 50 h
-- WindBoat$Sea.forceIn(II)I
set_option maxRecDepth 100000 in
set_option maxHeartbeats 8000000 in
theorem f_72 (a1 : Int32) (a2 : Int32) (μ : wm_M) (Q : Option Value → wm_M → Prop) (h : wm_OkI 0 70 [.ref 2, .int a1, .int a2] μ (fun r2 μ1 => wm_Wp 0 72 7 [.ref 2, .null, .null, .int r2] μ1 Q)) : wm_Ok 0 72 [.ref 2, .int a1, .int a2] μ Q := wm_ent (nL := 4) (l := [.ref 2, .int a1, .int a2, .null]) (by decide +kernel) (by decide +kernel) (by decide +kernel) rfl rfl (wm_vc mo_72 (rt := some .int) (by decide +kernel) mc_72 50 h)
-- WindBoat$Sea.forceIn(II)I, the place 7
set_option maxRecDepth 100000 in
set_option maxHeartbeats 8000000 in
theorem f_72_7 (x3 : Int32) (μ : wm_M) (Q : Option Value → wm_M → Prop) (h : ((x3 = (-1 : Int32) → Q (some (.int (0 : Int32))) μ) ∧ (¬ x3 = (-1 : Int32) → wm_Wp 0 72 16 [.ref 2, .null, .null, .int x3] μ Q))) : wm_Wp 0 72 7 [.ref 2, .null, .null, .int x3] μ Q := wm_vc mo_72 (rt := some .int) (by decide +kernel) mc_72 50 h
-- WindBoat$Sea.forceIn(II)I, the place 16
set_option maxRecDepth 100000 in
set_option maxHeartbeats 8000000 in
theorem f_72_16 (x3 : Int32) (μ : wm_M) (Q : Option Value → wm_M → Prop) (h : (vp_in x3 84 ∧ Q (some (.int (μ.1 6 (x3).toNatClampNeg))) μ)) : wm_Wp 0 72 16 [.ref 2, .null, .null, .int x3] μ Q := wm_vc mo_72 (rt := some .int) (by decide +kernel) mc_72 50 h
-- WindBoat$Sea.forceAt(III)I
set_option maxRecDepth 100000 in
set_option maxHeartbeats 8000000 in
theorem f_73 (a1 : Int32) (a2 : Int32) (a3 : Int32) (μ : wm_M) (Q : Option Value → wm_M → Prop) (h : wm_OkI 0 72 [.ref 2, .int a1, .int a2] μ (fun r2 μ1 => wm_OkI 0 74 [.ref 2, .int r2, .int a3] μ1 (fun r4 μ3 => Q (some (.int r4)) μ3))) : wm_Ok 0 73 [.ref 2, .int a1, .int a2, .int a3] μ Q := wm_ent (nL := 4) (l := [.ref 2, .int a1, .int a2, .int a3]) (by decide +kernel) (by decide +kernel) (by decide +kernel) rfl rfl (wm_vc mo_73 (rt := some .int) (by decide +kernel) mc_73 36 h)
-- WindBoat$Sea.sheltered(II)I
set_option maxRecDepth 100000 in
set_option maxHeartbeats 8000000 in
theorem f_74 (a1 : Int32) (a2 : Int32) (μ : wm_M) (Q : Option Value → wm_M → Prop) (h : (vp_in a2 36 ∧ (¬ (100 : Int32) = 0 ∧ Q (some (.int ((a1 * ((100 : Int32) - (μ.1 4 (a2).toNatClampNeg))) / (100 : Int32)))) μ))) : wm_Ok 0 74 [.ref 2, .int a1, .int a2] μ Q := wm_ent (nL := 3) (l := [.ref 2, .int a1, .int a2]) (by decide +kernel) (by decide +kernel) (by decide +kernel) rfl rfl (wm_vc mo_74 (rt := some .int) (by decide +kernel) mc_74 42 h)
-- WindBoat$Sea.toldHoursOf(I)I
set_option maxRecDepth 100000 in
set_option maxHeartbeats 8000000 in
theorem f_75 (a1 : Int32) (μ : wm_M) (Q : Option Value → wm_M → Prop) (h : wm_Wp 0 75 4 [.ref 2, .int a1, .int (0 : Int32), .int (0 : Int32)] μ Q) : wm_Ok 0 75 [.ref 2, .int a1] μ Q := wm_ent (nL := 4) (l := [.ref 2, .int a1, .null, .null]) (by decide +kernel) (by decide +kernel) (by decide +kernel) rfl rfl (wm_vc mo_75 (rt := some .int) (by decide +kernel) mc_75 58 h)
-- WindBoat$Sea.toldHoursOf(I)I, the place 4
set_option maxRecDepth 100000 in
set_option maxHeartbeats 8000000 in
theorem f_75_4 (x1 : Int32) (x2 : Int32) (x3 : Int32) (μ : wm_M) (Q : Option Value → wm_M → Prop) (h : (((12 : Int32) ≤ x3 → wm_Wp 0 75 28 [.null, .null, .int x2, .null] μ Q) ∧ (¬ (12 : Int32) ≤ x3 → wm_OkI 0 69 [.ref 2, .int x1, .int x3] μ (fun r2 μ1 => wm_OkI 0 177 [.int r2] μ1 (fun r4 μ3 => wm_Wp 0 75 22 [.ref 2, .int x1, .int (x2 + r4), .int x3] μ3 Q))))) : wm_Wp 0 75 4 [.ref 2, .int x1, .int x2, .int x3] μ Q := wm_vc mo_75 (rt := some .int) (by decide +kernel) mc_75 58 h
-- WindBoat$Sea.toldHoursOf(I)I, the place 22
set_option maxRecDepth 100000 in
set_option maxHeartbeats 8000000 in
theorem f_75_22 (x1 : Int32) (x2 : Int32) (x3 : Int32) (μ : wm_M) (Q : Option Value → wm_M → Prop) (h : wm_Wp 0 75 4 [.ref 2, .int x1, .int x2, .int (x3 + (1 : Int32))] μ Q) : wm_Wp 0 75 22 [.ref 2, .int x1, .int x2, .int x3] μ Q := wm_vc mo_75 (rt := some .int) (by decide +kernel) mc_75 58 h
-- WindBoat$Sea.toldHoursOf(I)I, the place 28
set_option maxRecDepth 100000 in
set_option maxHeartbeats 8000000 in
theorem f_75_28 (x2 : Int32) (μ : wm_M) (Q : Option Value → wm_M → Prop) (h : Q (some (.int x2)) μ) : wm_Wp 0 75 28 [.null, .null, .int x2, .null] μ Q := wm_vc mo_75 (rt := some .int) (by decide +kernel) mc_75 58 h
-- WindBoat$Sea.isToldWorld(I)Z
set_option maxRecDepth 100000 in
set_option maxHeartbeats 8000000 in
theorem f_76 (a1 : Int32) (μ : wm_M) (Q : Option Value → wm_M → Prop) (h : wm_OkI 0 75 [.ref 2, .int a1] μ (fun r2 μ1 => ((r2 ≤ (0 : Int32) → wm_Wp 0 76 12 [.null, .null] μ1 Q) ∧ (¬ r2 ≤ (0 : Int32) → wm_Wp 0 76 8 [.null, .null] μ1 Q)))) : wm_Ok 0 76 [.ref 2, .int a1] μ Q := wm_ent (nL := 2) (l := [.ref 2, .int a1]) (by decide +kernel) (by decide +kernel) (by decide +kernel) rfl rfl (wm_vc mo_76 (rt := some .boolean) (by decide +kernel) mc_76 36 h)
-- WindBoat$Sea.isToldWorld(I)Z, the place 8
set_option maxRecDepth 100000 in
set_option maxHeartbeats 8000000 in
theorem f_76_8 (μ : wm_M) (Q : Option Value → wm_M → Prop) (h : (((1 : Int32) = 0 ∨ (1 : Int32) = 1) ∧ Q (some (.int (1 : Int32))) μ)) : wm_Wp 0 76 8 [.null, .null] μ Q := wm_vc mo_76 (rt := some .boolean) (by decide +kernel) mc_76 36 h
-- WindBoat$Sea.isToldWorld(I)Z, the place 12
set_option maxRecDepth 100000 in
set_option maxHeartbeats 8000000 in
theorem f_76_12 (μ : wm_M) (Q : Option Value → wm_M → Prop) (h : (((0 : Int32) = 0 ∨ (0 : Int32) = 1) ∧ Q (some (.int (0 : Int32))) μ)) : wm_Wp 0 76 12 [.null, .null] μ Q := wm_vc mo_76 (rt := some .boolean) (by decide +kernel) mc_76 36 h
-- WindBoat$Sea.toldHours()I
set_option maxRecDepth 100000 in
set_option maxHeartbeats 8000000 in
theorem f_77 (μ : wm_M) (Q : Option Value → wm_M → Prop) (h : wm_Wp 0 77 4 [.ref 2, .int (0 : Int32), .int (0 : Int32)] μ Q) : wm_Ok 0 77 [.ref 2] μ Q := wm_ent (nL := 3) (l := [.ref 2, .null, .null]) (by decide +kernel) (by decide +kernel) (by decide +kernel) rfl rfl (wm_vc mo_77 (rt := some .int) (by decide +kernel) mc_77 54 h)
-- WindBoat$Sea.toldHours()I, the place 4
set_option maxRecDepth 100000 in
set_option maxHeartbeats 8000000 in
theorem f_77_4 (x1 : Int32) (x2 : Int32) (μ : wm_M) (Q : Option Value → wm_M → Prop) (h : (((7 : Int32) ≤ x2 → wm_Wp 0 77 24 [.null, .int x1, .null] μ Q) ∧ (¬ (7 : Int32) ≤ x2 → wm_OkI 0 75 [.ref 2, .int x2] μ (fun r2 μ1 => wm_Wp 0 77 18 [.ref 2, .int (x1 + r2), .int x2] μ1 Q)))) : wm_Wp 0 77 4 [.ref 2, .int x1, .int x2] μ Q := wm_vc mo_77 (rt := some .int) (by decide +kernel) mc_77 54 h
-- WindBoat$Sea.toldHours()I, the place 18
set_option maxRecDepth 100000 in
set_option maxHeartbeats 8000000 in
theorem f_77_18 (x1 : Int32) (x2 : Int32) (μ : wm_M) (Q : Option Value → wm_M → Prop) (h : wm_Wp 0 77 4 [.ref 2, .int x1, .int (x2 + (1 : Int32))] μ Q) : wm_Wp 0 77 18 [.ref 2, .int x1, .int x2] μ Q := wm_vc mo_77 (rt := some .int) (by decide +kernel) mc_77 54 h
-- WindBoat$Sea.toldHours()I, the place 24
set_option maxRecDepth 100000 in
set_option maxHeartbeats 8000000 in
theorem f_77_24 (x1 : Int32) (μ : wm_M) (Q : Option Value → wm_M → Prop) (h : Q (some (.int x1)) μ) : wm_Wp 0 77 24 [.null, .int x1, .null] μ Q := wm_vc mo_77 (rt := some .int) (by decide +kernel) mc_77 54 h
-- WindBoat$Sea.toldWorlds()I
set_option maxRecDepth 100000 in
set_option maxHeartbeats 8000000 in
theorem f_78 (μ : wm_M) (Q : Option Value → wm_M → Prop) (h : wm_Wp 0 78 4 [.ref 2, .int (0 : Int32), .int (0 : Int32)] μ Q) : wm_Ok 0 78 [.ref 2] μ Q := wm_ent (nL := 3) (l := [.ref 2, .null, .null]) (by decide +kernel) (by decide +kernel) (by decide +kernel) rfl rfl (wm_vc mo_78 (rt := some .int) (by decide +kernel) mc_78 56 h)
-- WindBoat$Sea.toldWorlds()I, the place 4
set_option maxRecDepth 100000 in
set_option maxHeartbeats 8000000 in
theorem f_78_4 (x1 : Int32) (x2 : Int32) (μ : wm_M) (Q : Option Value → wm_M → Prop) (h : (((6 : Int32) ≤ x2 → wm_Wp 0 78 27 [.null, .int x1, .null] μ Q) ∧ (¬ (6 : Int32) ≤ x2 → wm_OkI 0 76 [.ref 2, .int x2] μ (fun r2 μ1 => wm_OkI 0 177 [.int r2] μ1 (fun r4 μ3 => wm_Wp 0 78 21 [.ref 2, .int (x1 + r4), .int x2] μ3 Q))))) : wm_Wp 0 78 4 [.ref 2, .int x1, .int x2] μ Q := wm_vc mo_78 (rt := some .int) (by decide +kernel) mc_78 56 h
-- WindBoat$Sea.toldWorlds()I, the place 21
set_option maxRecDepth 100000 in
set_option maxHeartbeats 8000000 in
theorem f_78_21 (x1 : Int32) (x2 : Int32) (μ : wm_M) (Q : Option Value → wm_M → Prop) (h : wm_Wp 0 78 4 [.ref 2, .int x1, .int (x2 + (1 : Int32))] μ Q) : wm_Wp 0 78 21 [.ref 2, .int x1, .int x2] μ Q := wm_vc mo_78 (rt := some .int) (by decide +kernel) mc_78 56 h
-- WindBoat$Sea.toldWorlds()I, the place 27
set_option maxRecDepth 100000 in
set_option maxHeartbeats 8000000 in
theorem f_78_27 (x1 : Int32) (μ : wm_M) (Q : Option Value → wm_M → Prop) (h : Q (some (.int x1)) μ) : wm_Wp 0 78 27 [.null, .int x1, .null] μ Q := wm_vc mo_78 (rt := some .int) (by decide +kernel) mc_78 56 h
-- WindBoat$Sea.landCells()I
set_option maxRecDepth 100000 in
set_option maxHeartbeats 8000000 in
theorem f_79 (μ : wm_M) (Q : Option Value → wm_M → Prop) (h : wm_Wp 0 79 4 [.ref 2, .int (0 : Int32), .int (0 : Int32)] μ Q) : wm_Ok 0 79 [.ref 2] μ Q := wm_ent (nL := 3) (l := [.ref 2, .null, .null]) (by decide +kernel) (by decide +kernel) (by decide +kernel) rfl rfl (wm_vc mo_79 (rt := some .int) (by decide +kernel) mc_79 58 h)
-- WindBoat$Sea.landCells()I, the place 4
set_option maxRecDepth 100000 in
set_option maxHeartbeats 8000000 in
theorem f_79_4 (x1 : Int32) (x2 : Int32) (μ : wm_M) (Q : Option Value → wm_M → Prop) (h : (((36 : Int32) ≤ x2 → wm_Wp 0 79 28 [.null, .int x1, .null] μ Q) ∧ (¬ (36 : Int32) ≤ x2 → (vp_in x2 36 ∧ wm_OkI 0 177 [.int (μ.1 3 (x2).toNatClampNeg)] μ (fun r2 μ1 => wm_Wp 0 79 22 [.ref 2, .int (x1 + r2), .int x2] μ1 Q))))) : wm_Wp 0 79 4 [.ref 2, .int x1, .int x2] μ Q := wm_vc mo_79 (rt := some .int) (by decide +kernel) mc_79 58 h
-- WindBoat$Sea.landCells()I, the place 22
set_option maxRecDepth 100000 in
set_option maxHeartbeats 8000000 in
theorem f_79_22 (x1 : Int32) (x2 : Int32) (μ : wm_M) (Q : Option Value → wm_M → Prop) (h : wm_Wp 0 79 4 [.ref 2, .int x1, .int (x2 + (1 : Int32))] μ Q) : wm_Wp 0 79 22 [.ref 2, .int x1, .int x2] μ Q := wm_vc mo_79 (rt := some .int) (by decide +kernel) mc_79 58 h
-- WindBoat$Sea.landCells()I, the place 28
set_option maxRecDepth 100000 in
set_option maxHeartbeats 8000000 in
theorem f_79_28 (x1 : Int32) (μ : wm_M) (Q : Option Value → wm_M → Prop) (h : Q (some (.int x1)) μ) : wm_Wp 0 79 28 [.null, .int x1, .null] μ Q := wm_vc mo_79 (rt := some .int) (by decide +kernel) mc_79 58 h
-- WindBoat$Sea.hitsOf(I)I
set_option maxRecDepth 100000 in
set_option maxHeartbeats 8000000 in
theorem f_80 (a1 : Int32) (μ : wm_M) (Q : Option Value → wm_M → Prop) (h : wm_Wp 0 80 4 [.ref 2, .int a1, .int (0 : Int32), .int (0 : Int32), .null, .null] μ Q) : wm_Ok 0 80 [.ref 2, .int a1] μ Q := wm_ent (nL := 6) (l := [.ref 2, .int a1, .null, .null, .null, .null]) (by decide +kernel) (by decide +kernel) (by decide +kernel) rfl rfl (wm_vc mo_80 (rt := some .int) (by decide +kernel) mc_80 130 h)
-- WindBoat$Sea.hitsOf(I)I, the place 4
set_option maxRecDepth 100000 in
set_option maxHeartbeats 8000000 in
theorem f_80_4 (x1 : Int32) (x2 : Int32) (x3 : Int32) (μ : wm_M) (Q : Option Value → wm_M → Prop) (h : (((12 : Int32) ≤ x3 → wm_Wp 0 80 95 [.null, .null, .int x2, .null, .null, .null] μ Q) ∧ (¬ (12 : Int32) ≤ x3 → wm_Wp 0 80 24 [.ref 2, .int x1, .int x2, .int x3, .int ((x1 * (12 : Int32)) + x3), .int ((72 : Int32) + x3)] μ Q))) : wm_Wp 0 80 4 [.ref 2, .int x1, .int x2, .int x3, .null, .null] μ Q := wm_vc mo_80 (rt := some .int) (by decide +kernel) mc_80 130 h
-- WindBoat$Sea.hitsOf(I)I, the place 24
set_option maxRecDepth 100000 in
set_option maxHeartbeats 8000000 in
theorem f_80_24 (x1 : Int32) (x2 : Int32) (x3 : Int32) (x4 : Int32) (x5 : Int32) (μ : wm_M) (Q : Option Value → wm_M → Prop) (h : wm_OkI 0 69 [.ref 2, .int x1, .int x3] μ (fun r2 μ1 => ((r2 = (0 : Int32) → wm_Wp 0 80 89 [.ref 2, .int x1, .int x2, .int x3, .null, .null] μ1 Q) ∧ (¬ r2 = (0 : Int32) → wm_Wp 0 80 33 [.ref 2, .int x1, .int x2, .int x3, .int x4, .int x5] μ1 Q)))) : wm_Wp 0 80 24 [.ref 2, .int x1, .int x2, .int x3, .int x4, .int x5] μ Q := wm_vc mo_80 (rt := some .int) (by decide +kernel) mc_80 130 h
-- WindBoat$Sea.hitsOf(I)I, the place 33
set_option maxRecDepth 100000 in
set_option maxHeartbeats 8000000 in
theorem f_80_33 (x1 : Int32) (x2 : Int32) (x3 : Int32) (x4 : Int32) (x5 : Int32) (μ : wm_M) (Q : Option Value → wm_M → Prop) (h : wm_OkI 0 69 [.ref 2, .int (6 : Int32), .int x3] μ (fun r2 μ1 => ((r2 = (0 : Int32) → wm_Wp 0 80 89 [.ref 2, .int x1, .int x2, .int x3, .null, .null] μ1 Q) ∧ (¬ r2 = (0 : Int32) → wm_Wp 0 80 43 [.ref 2, .int x1, .int x2, .int x3, .int x4, .int x5] μ1 Q)))) : wm_Wp 0 80 33 [.ref 2, .int x1, .int x2, .int x3, .int x4, .int x5] μ Q := wm_vc mo_80 (rt := some .int) (by decide +kernel) mc_80 130 h
-- WindBoat$Sea.hitsOf(I)I, the place 43
set_option maxRecDepth 100000 in
set_option maxHeartbeats 8000000 in
theorem f_80_43 (x1 : Int32) (x2 : Int32) (x3 : Int32) (x4 : Int32) (x5 : Int32) (μ : wm_M) (Q : Option Value → wm_M → Prop) (h : (vp_in x4 84 ∧ (vp_in x5 84 ∧ wm_OkI 0 181 [.int (μ.1 5 (x4).toNatClampNeg), .int (μ.1 5 (x5).toNatClampNeg)] μ (fun r2 μ1 => (((1 : Int32) < r2 → wm_Wp 0 80 89 [.ref 2, .int x1, .int x2, .int x3, .null, .null] μ1 Q) ∧ (¬ (1 : Int32) < r2 → wm_Wp 0 80 64 [.ref 2, .int x1, .int x2, .int x3, .int x4, .int x5] μ1 Q)))))) : wm_Wp 0 80 43 [.ref 2, .int x1, .int x2, .int x3, .int x4, .int x5] μ Q := wm_vc mo_80 (rt := some .int) (by decide +kernel) mc_80 130 h
-- WindBoat$Sea.hitsOf(I)I, the place 64
set_option maxRecDepth 100000 in
set_option maxHeartbeats 8000000 in
theorem f_80_64 (x1 : Int32) (x2 : Int32) (x3 : Int32) (x4 : Int32) (x5 : Int32) (μ : wm_M) (Q : Option Value → wm_M → Prop) (h : (vp_in x4 84 ∧ (vp_in x5 84 ∧ (((4 : Int32) < (if 0 ≤ ((μ.1 6 (x4).toNatClampNeg) - (μ.1 6 (x5).toNatClampNeg)) then ((μ.1 6 (x4).toNatClampNeg) - (μ.1 6 (x5).toNatClampNeg)) else 0 - ((μ.1 6 (x4).toNatClampNeg) - (μ.1 6 (x5).toNatClampNeg))) → wm_Wp 0 80 89 [.ref 2, .int x1, .int x2, .int x3, .null, .null] μ Q) ∧ (¬ (4 : Int32) < (if 0 ≤ ((μ.1 6 (x4).toNatClampNeg) - (μ.1 6 (x5).toNatClampNeg)) then ((μ.1 6 (x4).toNatClampNeg) - (μ.1 6 (x5).toNatClampNeg)) else 0 - ((μ.1 6 (x4).toNatClampNeg) - (μ.1 6 (x5).toNatClampNeg))) → wm_Wp 0 80 86 [.ref 2, .int x1, .int x2, .int x3, .null, .null] μ Q))))) : wm_Wp 0 80 64 [.ref 2, .int x1, .int x2, .int x3, .int x4, .int x5] μ Q := wm_vc mo_80 (rt := some .int) (by decide +kernel) mc_80 130 h
-- WindBoat$Sea.hitsOf(I)I, the place 86
set_option maxRecDepth 100000 in
set_option maxHeartbeats 8000000 in
theorem f_80_86 (x1 : Int32) (x2 : Int32) (x3 : Int32) (μ : wm_M) (Q : Option Value → wm_M → Prop) (h : wm_Wp 0 80 89 [.ref 2, .int x1, .int (x2 + (1 : Int32)), .int x3, .null, .null] μ Q) : wm_Wp 0 80 86 [.ref 2, .int x1, .int x2, .int x3, .null, .null] μ Q := wm_vc mo_80 (rt := some .int) (by decide +kernel) mc_80 130 h
-- WindBoat$Sea.hitsOf(I)I, the place 89
set_option maxRecDepth 100000 in
set_option maxHeartbeats 8000000 in
theorem f_80_89 (x1 : Int32) (x2 : Int32) (x3 : Int32) (μ : wm_M) (Q : Option Value → wm_M → Prop) (h : wm_Wp 0 80 4 [.ref 2, .int x1, .int x2, .int (x3 + (1 : Int32)), .null, .null] μ Q) : wm_Wp 0 80 89 [.ref 2, .int x1, .int x2, .int x3, .null, .null] μ Q := wm_vc mo_80 (rt := some .int) (by decide +kernel) mc_80 130 h
-- WindBoat$Sea.hitsOf(I)I, the place 95
set_option maxRecDepth 100000 in
set_option maxHeartbeats 8000000 in
theorem f_80_95 (x2 : Int32) (μ : wm_M) (Q : Option Value → wm_M → Prop) (h : Q (some (.int x2)) μ) : wm_Wp 0 80 95 [.null, .null, .int x2, .null, .null, .null] μ Q := wm_vc mo_80 (rt := some .int) (by decide +kernel) mc_80 130 h
-- WindBoat$Sea.weightOf(I)I
set_option maxRecDepth 100000 in
set_option maxHeartbeats 8000000 in
theorem f_81 (a1 : Int32) (μ : wm_M) (Q : Option Value → wm_M → Prop) (h : (¬ (2 : Int32) = 0 ∧ wm_OkI 0 80 [.ref 2, .int ((a1 / (2 : Int32)) * (2 : Int32))] μ (fun r2 μ1 => wm_OkI 0 80 [.ref 2, .int (((a1 / (2 : Int32)) * (2 : Int32)) + (1 : Int32))] μ1 (fun r4 μ3 => Q (some (.int (((1 : Int32) + r2) + r4))) μ3)))) : wm_Ok 0 81 [.ref 2, .int a1] μ Q := wm_ent (nL := 3) (l := [.ref 2, .int a1, .null]) (by decide +kernel) (by decide +kernel) (by decide +kernel) rfl rfl (wm_vc mo_81 (rt := some .int) (by decide +kernel) mc_81 56 h)
-- WindBoat$Speeds.take(LWindBoat$Speeds;)V
set_option maxRecDepth 100000 in
set_option maxHeartbeats 8000000 in
theorem f_83b (μ : wm_M) (Q : Option Value → wm_M → Prop) (h : (¬ (0 : Int32) < 0 ∧ ¬ (0 : Int32) < 0 ∧ ¬ (25 : Int32) < 0 ∧ ((0 : Int32)).toNatClampNeg + ((25 : Int32)).toNatClampNeg ≤ 25 ∧ ((0 : Int32)).toNatClampNeg + ((25 : Int32)).toNatClampNeg ≤ 25 ∧ ∀ μ1, μ1 = wm_sr μ 8 (va_cpy (μ.1 37) (μ.1 8) ((0 : Int32)).toNatClampNeg ((0 : Int32)).toNatClampNeg ((25 : Int32)).toNatClampNeg) → wm_Wp 0 83 15 [.ref 7, .ref 36] μ1 Q)) : wm_Ok 0 83 [.ref 7, .ref 36] μ Q := wm_ent (nL := 2) (l := [.ref 7, .ref 36]) (by decide +kernel) (by decide +kernel) (by decide +kernel) rfl rfl (wm_vc mo_83 (rt := none) (by decide +kernel) mc_83 102 h)
-- WindBoat$Speeds.take(LWindBoat$Speeds;)V, the place 15
set_option maxRecDepth 100000 in
set_option maxHeartbeats 8000000 in
theorem f_83_15b (μ : wm_M) (Q : Option Value → wm_M → Prop) (h : (¬ (0 : Int32) < 0 ∧ ¬ (0 : Int32) < 0 ∧ ¬ (25 : Int32) < 0 ∧ ((0 : Int32)).toNatClampNeg + ((25 : Int32)).toNatClampNeg ≤ 25 ∧ ((0 : Int32)).toNatClampNeg + ((25 : Int32)).toNatClampNeg ≤ 25 ∧ ∀ μ1, μ1 = wm_sr μ 9 (va_cpy (μ.1 38) (μ.1 9) ((0 : Int32)).toNatClampNeg ((0 : Int32)).toNatClampNeg ((25 : Int32)).toNatClampNeg) → wm_Wp 0 83 30 [.ref 7, .ref 36] μ1 Q)) : wm_Wp 0 83 15 [.ref 7, .ref 36] μ Q := wm_vc mo_83 (rt := none) (by decide +kernel) mc_83 102 h
-- WindBoat$Speeds.take(LWindBoat$Speeds;)V, the place 30
set_option maxRecDepth 100000 in
set_option maxHeartbeats 8000000 in
theorem f_83_30b (μ : wm_M) (Q : Option Value → wm_M → Prop) (h : (¬ (0 : Int32) < 0 ∧ ¬ (0 : Int32) < 0 ∧ ¬ (25 : Int32) < 0 ∧ ((0 : Int32)).toNatClampNeg + ((25 : Int32)).toNatClampNeg ≤ 25 ∧ ((0 : Int32)).toNatClampNeg + ((25 : Int32)).toNatClampNeg ≤ 25 ∧ ∀ μ1, μ1 = wm_sr μ 10 (va_cpy (μ.1 39) (μ.1 10) ((0 : Int32)).toNatClampNeg ((0 : Int32)).toNatClampNeg ((25 : Int32)).toNatClampNeg) → wm_Wp 0 83 45 [.ref 7, .ref 36] μ1 Q)) : wm_Wp 0 83 30 [.ref 7, .ref 36] μ Q := wm_vc mo_83 (rt := none) (by decide +kernel) mc_83 102 h
-- WindBoat$Speeds.take(LWindBoat$Speeds;)V, the place 45
set_option maxRecDepth 100000 in
set_option maxHeartbeats 8000000 in
theorem f_83_45b (μ : wm_M) (Q : Option Value → wm_M → Prop) (h : (¬ (0 : Int32) < 0 ∧ ¬ (0 : Int32) < 0 ∧ ¬ (25 : Int32) < 0 ∧ ((0 : Int32)).toNatClampNeg + ((25 : Int32)).toNatClampNeg ≤ 25 ∧ ((0 : Int32)).toNatClampNeg + ((25 : Int32)).toNatClampNeg ≤ 25 ∧ ∀ μ1, μ1 = wm_sr μ 11 (va_cpy (μ.1 40) (μ.1 11) ((0 : Int32)).toNatClampNeg ((0 : Int32)).toNatClampNeg ((25 : Int32)).toNatClampNeg) → wm_Wp 0 83 60 [.ref 7, .ref 36] μ1 Q)) : wm_Wp 0 83 45 [.ref 7, .ref 36] μ Q := wm_vc mo_83 (rt := none) (by decide +kernel) mc_83 102 h
-- WindBoat$Speeds.take(LWindBoat$Speeds;)V, the place 60
set_option maxRecDepth 100000 in
set_option maxHeartbeats 8000000 in
theorem f_83_60b (μ : wm_M) (Q : Option Value → wm_M → Prop) (h : (¬ (0 : Int32) < 0 ∧ ¬ (0 : Int32) < 0 ∧ ¬ (25 : Int32) < 0 ∧ ((0 : Int32)).toNatClampNeg + ((25 : Int32)).toNatClampNeg ≤ 25 ∧ ((0 : Int32)).toNatClampNeg + ((25 : Int32)).toNatClampNeg ≤ 25 ∧ ∀ μ1, μ1 = wm_sr μ 12 (va_cpy (μ.1 41) (μ.1 12) ((0 : Int32)).toNatClampNeg ((0 : Int32)).toNatClampNeg ((25 : Int32)).toNatClampNeg) → wm_Wp 0 83 75 [.null, .null] μ1 Q)) : wm_Wp 0 83 60 [.ref 7, .ref 36] μ Q := wm_vc mo_83 (rt := none) (by decide +kernel) mc_83 102 h
-- WindBoat$Speeds.take(LWindBoat$Speeds;)V, the place 75
set_option maxRecDepth 100000 in
set_option maxHeartbeats 8000000 in
theorem f_83_75b (μ : wm_M) (Q : Option Value → wm_M → Prop) (h : Q none μ) : wm_Wp 0 83 75 [.null, .null] μ Q := wm_vc mo_83 (rt := none) (by decide +kernel) mc_83 102 h
-- WindBoat$Speeds.take(LWindBoat$Speeds;)V
set_option maxRecDepth 100000 in
set_option maxHeartbeats 8000000 in
theorem f_83i (μ : wm_M) (Q : Option Value → wm_M → Prop) (h : (¬ (0 : Int32) < 0 ∧ ¬ (0 : Int32) < 0 ∧ ¬ (25 : Int32) < 0 ∧ ((0 : Int32)).toNatClampNeg + ((25 : Int32)).toNatClampNeg ≤ 25 ∧ ((0 : Int32)).toNatClampNeg + ((25 : Int32)).toNatClampNeg ≤ 25 ∧ ∀ μ1, μ1 = wm_sr μ 37 (va_cpy (μ.1 8) (μ.1 37) ((0 : Int32)).toNatClampNeg ((0 : Int32)).toNatClampNeg ((25 : Int32)).toNatClampNeg) → wm_Wp 0 83 15 [.ref 36, .ref 7] μ1 Q)) : wm_Ok 0 83 [.ref 36, .ref 7] μ Q := wm_ent (nL := 2) (l := [.ref 36, .ref 7]) (by decide +kernel) (by decide +kernel) (by decide +kernel) rfl rfl (wm_vc mo_83 (rt := none) (by decide +kernel) mc_83 102 h)
-- WindBoat$Speeds.take(LWindBoat$Speeds;)V, the place 15
set_option maxRecDepth 100000 in
set_option maxHeartbeats 8000000 in
theorem f_83_15i (μ : wm_M) (Q : Option Value → wm_M → Prop) (h : (¬ (0 : Int32) < 0 ∧ ¬ (0 : Int32) < 0 ∧ ¬ (25 : Int32) < 0 ∧ ((0 : Int32)).toNatClampNeg + ((25 : Int32)).toNatClampNeg ≤ 25 ∧ ((0 : Int32)).toNatClampNeg + ((25 : Int32)).toNatClampNeg ≤ 25 ∧ ∀ μ1, μ1 = wm_sr μ 38 (va_cpy (μ.1 9) (μ.1 38) ((0 : Int32)).toNatClampNeg ((0 : Int32)).toNatClampNeg ((25 : Int32)).toNatClampNeg) → wm_Wp 0 83 30 [.ref 36, .ref 7] μ1 Q)) : wm_Wp 0 83 15 [.ref 36, .ref 7] μ Q := wm_vc mo_83 (rt := none) (by decide +kernel) mc_83 102 h
-- WindBoat$Speeds.take(LWindBoat$Speeds;)V, the place 30
set_option maxRecDepth 100000 in
set_option maxHeartbeats 8000000 in
theorem f_83_30i (μ : wm_M) (Q : Option Value → wm_M → Prop) (h : (¬ (0 : Int32) < 0 ∧ ¬ (0 : Int32) < 0 ∧ ¬ (25 : Int32) < 0 ∧ ((0 : Int32)).toNatClampNeg + ((25 : Int32)).toNatClampNeg ≤ 25 ∧ ((0 : Int32)).toNatClampNeg + ((25 : Int32)).toNatClampNeg ≤ 25 ∧ ∀ μ1, μ1 = wm_sr μ 39 (va_cpy (μ.1 10) (μ.1 39) ((0 : Int32)).toNatClampNeg ((0 : Int32)).toNatClampNeg ((25 : Int32)).toNatClampNeg) → wm_Wp 0 83 45 [.ref 36, .ref 7] μ1 Q)) : wm_Wp 0 83 30 [.ref 36, .ref 7] μ Q := wm_vc mo_83 (rt := none) (by decide +kernel) mc_83 102 h
-- WindBoat$Speeds.take(LWindBoat$Speeds;)V, the place 45
set_option maxRecDepth 100000 in
set_option maxHeartbeats 8000000 in
theorem f_83_45i (μ : wm_M) (Q : Option Value → wm_M → Prop) (h : (¬ (0 : Int32) < 0 ∧ ¬ (0 : Int32) < 0 ∧ ¬ (25 : Int32) < 0 ∧ ((0 : Int32)).toNatClampNeg + ((25 : Int32)).toNatClampNeg ≤ 25 ∧ ((0 : Int32)).toNatClampNeg + ((25 : Int32)).toNatClampNeg ≤ 25 ∧ ∀ μ1, μ1 = wm_sr μ 40 (va_cpy (μ.1 11) (μ.1 40) ((0 : Int32)).toNatClampNeg ((0 : Int32)).toNatClampNeg ((25 : Int32)).toNatClampNeg) → wm_Wp 0 83 60 [.ref 36, .ref 7] μ1 Q)) : wm_Wp 0 83 45 [.ref 36, .ref 7] μ Q := wm_vc mo_83 (rt := none) (by decide +kernel) mc_83 102 h
-- WindBoat$Speeds.take(LWindBoat$Speeds;)V, the place 60
set_option maxRecDepth 100000 in
set_option maxHeartbeats 8000000 in
theorem f_83_60i (μ : wm_M) (Q : Option Value → wm_M → Prop) (h : (¬ (0 : Int32) < 0 ∧ ¬ (0 : Int32) < 0 ∧ ¬ (25 : Int32) < 0 ∧ ((0 : Int32)).toNatClampNeg + ((25 : Int32)).toNatClampNeg ≤ 25 ∧ ((0 : Int32)).toNatClampNeg + ((25 : Int32)).toNatClampNeg ≤ 25 ∧ ∀ μ1, μ1 = wm_sr μ 41 (va_cpy (μ.1 12) (μ.1 41) ((0 : Int32)).toNatClampNeg ((0 : Int32)).toNatClampNeg ((25 : Int32)).toNatClampNeg) → wm_Wp 0 83 75 [.null, .null] μ1 Q)) : wm_Wp 0 83 60 [.ref 36, .ref 7] μ Q := wm_vc mo_83 (rt := none) (by decide +kernel) mc_83 102 h
-- WindBoat$Speeds.take(LWindBoat$Speeds;)V, the place 75
set_option maxRecDepth 100000 in
set_option maxHeartbeats 8000000 in
theorem f_83_75i (μ : wm_M) (Q : Option Value → wm_M → Prop) (h : Q none μ) : wm_Wp 0 83 75 [.null, .null] μ Q := wm_vc mo_83 (rt := none) (by decide +kernel) mc_83 102 h
-- WindBoat$Speeds.see(II)I
set_option maxRecDepth 100000 in
set_option maxHeartbeats 8000000 in
theorem f_84 (a1 : Int32) (a2 : Int32) (μ : wm_M) (Q : Option Value → wm_M → Prop) (h : (vp_in a1 25 ∧ (((μ.1 9 (a1).toNatClampNeg) = (0 : Int32) → (((1 : Int32) = (0 : Int32) → (vp_in a1 25 ∧ (vp_in a1 25 ∧ wm_Wp 0 84 39 [.ref 7, .int a1, .int a2, .int (1 : Int32)] (wm_si μ 11 (a1).toNatClampNeg (if a2 < (μ.1 11 (a1).toNatClampNeg) then a2 else (μ.1 11 (a1).toNatClampNeg))) Q))) ∧ (¬ (1 : Int32) = (0 : Int32) → (vp_in a1 25 ∧ wm_Wp 0 84 39 [.ref 7, .int a1, .int a2, .int (1 : Int32)] (wm_si μ 11 (a1).toNatClampNeg a2) Q)))) ∧ (¬ (μ.1 9 (a1).toNatClampNeg) = (0 : Int32) → wm_Wp 0 84 13 [.ref 7, .int a1, .int a2, .null] μ Q)))) : wm_Ok 0 84 [.ref 7, .int a1, .int a2] μ Q := wm_ent (nL := 4) (l := [.ref 7, .int a1, .int a2, .null]) (by decide +kernel) (by decide +kernel) (by decide +kernel) rfl rfl (wm_vc mo_84 (rt := some .int) (by decide +kernel) mc_84 136 h)
-- WindBoat$Speeds.see(II)I, the place 13
set_option maxRecDepth 100000 in
set_option maxHeartbeats 8000000 in
theorem f_84_13 (x1 : Int32) (x2 : Int32) (μ : wm_M) (Q : Option Value → wm_M → Prop) (h : (((0 : Int32) = (0 : Int32) → (vp_in x1 25 ∧ (vp_in x1 25 ∧ wm_Wp 0 84 39 [.ref 7, .int x1, .int x2, .int (0 : Int32)] (wm_si μ 11 (x1).toNatClampNeg (if x2 < (μ.1 11 (x1).toNatClampNeg) then x2 else (μ.1 11 (x1).toNatClampNeg))) Q))) ∧ (¬ (0 : Int32) = (0 : Int32) → (vp_in x1 25 ∧ wm_Wp 0 84 39 [.ref 7, .int x1, .int x2, .int (0 : Int32)] (wm_si μ 11 (x1).toNatClampNeg x2) Q)))) : wm_Wp 0 84 13 [.ref 7, .int x1, .int x2, .null] μ Q := wm_vc mo_84 (rt := some .int) (by decide +kernel) mc_84 136 h
-- WindBoat$Speeds.see(II)I, the place 39
set_option maxRecDepth 100000 in
set_option maxHeartbeats 8000000 in
theorem f_84_39 (x1 : Int32) (x2 : Int32) (x3 : Int32) (μ : wm_M) (Q : Option Value → wm_M → Prop) (h : ((x3 = (0 : Int32) → (vp_in x1 25 ∧ (vp_in x1 25 ∧ wm_Wp 0 84 63 [.ref 7, .int x1, .int x2, .null] (wm_si μ 12 (x1).toNatClampNeg (if (μ.1 12 (x1).toNatClampNeg) < x2 then x2 else (μ.1 12 (x1).toNatClampNeg))) Q))) ∧ (¬ x3 = (0 : Int32) → (vp_in x1 25 ∧ wm_Wp 0 84 63 [.ref 7, .int x1, .int x2, .null] (wm_si μ 12 (x1).toNatClampNeg x2) Q)))) : wm_Wp 0 84 39 [.ref 7, .int x1, .int x2, .int x3] μ Q := wm_vc mo_84 (rt := some .int) (by decide +kernel) mc_84 136 h
-- WindBoat$Speeds.see(II)I, the place 63
set_option maxRecDepth 100000 in
set_option maxHeartbeats 8000000 in
theorem f_84_63 (x1 : Int32) (x2 : Int32) (μ : wm_M) (Q : Option Value → wm_M → Prop) (h : (vp_in x1 25 ∧ (vp_in x1 25 ∧ wm_Wp 0 84 73 [.ref 7, .int x1, .null, .null] (wm_si μ 10 (x1).toNatClampNeg ((μ.1 10 (x1).toNatClampNeg) + x2)) Q))) : wm_Wp 0 84 63 [.ref 7, .int x1, .int x2, .null] μ Q := wm_vc mo_84 (rt := some .int) (by decide +kernel) mc_84 136 h
-- WindBoat$Speeds.see(II)I, the place 73
set_option maxRecDepth 100000 in
set_option maxHeartbeats 8000000 in
theorem f_84_73 (x1 : Int32) (μ : wm_M) (Q : Option Value → wm_M → Prop) (h : (vp_in x1 25 ∧ (vp_in x1 25 ∧ wm_Wp 0 84 83 [.ref 7, .int x1, .null, .null] (wm_si μ 9 (x1).toNatClampNeg ((μ.1 9 (x1).toNatClampNeg) + (1 : Int32))) Q))) : wm_Wp 0 84 73 [.ref 7, .int x1, .null, .null] μ Q := wm_vc mo_84 (rt := some .int) (by decide +kernel) mc_84 136 h
-- WindBoat$Speeds.see(II)I, the place 83
set_option maxRecDepth 100000 in
set_option maxHeartbeats 8000000 in
theorem f_84_83 (x1 : Int32) (μ : wm_M) (Q : Option Value → wm_M → Prop) (h : (vp_in x1 25 ∧ Q (some (.int (μ.1 9 (x1).toNatClampNeg))) μ)) : wm_Wp 0 84 83 [.ref 7, .int x1, .null, .null] μ Q := wm_vc mo_84 (rt := some .int) (by decide +kernel) mc_84 136 h
-- WindBoat$Speeds.by(II)I
set_option maxRecDepth 100000 in
set_option maxHeartbeats 8000000 in
theorem f_85 (a1 : Int32) (a2 : Int32) (μ : wm_M) (Q : Option Value → wm_M → Prop) (h : ((a1 = (1 : Int32) → (vp_in a2 25 ∧ (((μ.1 9 (a2).toNatClampNeg) < (3 : Int32) → wm_Wp 0 85 29 [.ref 7, .null, .int a2] μ Q) ∧ (¬ (μ.1 9 (a2).toNatClampNeg) < (3 : Int32) → (vp_in a2 25 ∧ (vp_in a2 25 ∧ (¬ (μ.1 9 (a2).toNatClampNeg) = 0 ∧ Q (some (.int ((μ.1 10 (a2).toNatClampNeg) / (μ.1 9 (a2).toNatClampNeg)))) μ))))))) ∧ (¬ a1 = (1 : Int32) → wm_Wp 0 85 29 [.ref 7, .null, .int a2] μ Q))) : wm_Ok 0 85 [.ref 7, .int a1, .int a2] μ Q := wm_ent (nL := 3) (l := [.ref 7, .int a1, .int a2]) (by decide +kernel) (by decide +kernel) (by decide +kernel) rfl rfl (wm_vc mo_85 (rt := some .int) (by decide +kernel) mc_85 68 h)
-- WindBoat$Speeds.by(II)I, the place 29
set_option maxRecDepth 100000 in
set_option maxHeartbeats 8000000 in
theorem f_85_29 (x2 : Int32) (μ : wm_M) (Q : Option Value → wm_M → Prop) (h : (vp_in x2 25 ∧ Q (some (.int (μ.1 8 (x2).toNatClampNeg))) μ)) : wm_Wp 0 85 29 [.ref 7, .null, .int x2] μ Q := wm_vc mo_85 (rt := some .int) (by decide +kernel) mc_85 68 h
-- WindBoat$Speeds.rowsOfAll()I
set_option maxRecDepth 100000 in
set_option maxHeartbeats 8000000 in
theorem f_86 (μ : wm_M) (Q : Option Value → wm_M → Prop) (h : wm_Wp 0 86 4 [.ref 7, .int (0 : Int32), .int (0 : Int32)] μ Q) : wm_Ok 0 86 [.ref 7] μ Q := wm_ent (nL := 3) (l := [.ref 7, .null, .null]) (by decide +kernel) (by decide +kernel) (by decide +kernel) rfl rfl (wm_vc mo_86 (rt := some .int) (by decide +kernel) mc_86 56 h)
-- WindBoat$Speeds.rowsOfAll()I, the place 4
set_option maxRecDepth 100000 in
set_option maxHeartbeats 8000000 in
theorem f_86_4 (x1 : Int32) (x2 : Int32) (μ : wm_M) (Q : Option Value → wm_M → Prop) (h : (((25 : Int32) ≤ x2 → wm_Wp 0 86 25 [.null, .int x1, .null] μ Q) ∧ (¬ (25 : Int32) ≤ x2 → (vp_in x2 25 ∧ wm_Wp 0 86 4 [.ref 7, .int (x1 + (μ.1 9 (x2).toNatClampNeg)), .int (x2 + (1 : Int32))] μ Q)))) : wm_Wp 0 86 4 [.ref 7, .int x1, .int x2] μ Q := wm_vc mo_86 (rt := some .int) (by decide +kernel) mc_86 56 h
-- WindBoat$Speeds.rowsOfAll()I, the place 25
set_option maxRecDepth 100000 in
set_option maxHeartbeats 8000000 in
theorem f_86_25 (x1 : Int32) (μ : wm_M) (Q : Option Value → wm_M → Prop) (h : Q (some (.int x1)) μ) : wm_Wp 0 86 25 [.null, .int x1, .null] μ Q := wm_vc mo_86 (rt := some .int) (by decide +kernel) mc_86 56 h
-- WindBoat$Tape.put(I)V
set_option maxRecDepth 100000 in
set_option maxHeartbeats 8000000 in
theorem f_88 (a1 : Int32) (μ : wm_M) (Q : Option Value → wm_M → Prop) (h : (vp_in (μ.1 59 1) 120 ∧ wm_Wp 0 88 10 [.ref 59, .null] (wm_si μ 60 ((μ.1 59 1)).toNatClampNeg a1) Q)) : wm_Ok 0 88 [.ref 59, .int a1] μ Q := wm_ent (nL := 2) (l := [.ref 59, .int a1]) (by decide +kernel) (by decide +kernel) (by decide +kernel) rfl rfl (wm_vc mo_88 (rt := none) (by decide +kernel) mc_88 46 h)
-- WindBoat$Tape.put(I)V, the place 10
set_option maxRecDepth 100000 in
set_option maxHeartbeats 8000000 in
theorem f_88_10 (μ : wm_M) (Q : Option Value → wm_M → Prop) (h : wm_Wp 0 88 20 [.null, .null] (wm_si μ 59 1 ((μ.1 59 1) + (1 : Int32))) Q) : wm_Wp 0 88 10 [.ref 59, .null] μ Q := wm_vc mo_88 (rt := none) (by decide +kernel) mc_88 46 h
-- WindBoat$Tape.put(I)V, the place 20
set_option maxRecDepth 100000 in
set_option maxHeartbeats 8000000 in
theorem f_88_20 (μ : wm_M) (Q : Option Value → wm_M → Prop) (h : Q none μ) : wm_Wp 0 88 20 [.null, .null] μ Q := wm_vc mo_88 (rt := none) (by decide +kernel) mc_88 46 h
-- WindBoat$Tape.fault()I
set_option maxRecDepth 100000 in
set_option maxHeartbeats 8000000 in
theorem f_89 (μ : wm_M) (Q : Option Value → wm_M → Prop) (h : wm_Wp 0 89 5 [.ref 59] (wm_si μ 59 7 (0 : Int32)) Q) : wm_Ok 0 89 [.ref 59] μ Q := wm_ent (nL := 1) (l := [.ref 59]) (by decide +kernel) (by decide +kernel) (by decide +kernel) rfl rfl (wm_vc mo_89 (rt := some .int) (by decide +kernel) mc_89 128 h)
-- WindBoat$Tape.fault()I, the place 5
set_option maxRecDepth 100000 in
set_option maxHeartbeats 8000000 in
theorem f_89_5 (μ : wm_M) (Q : Option Value → wm_M → Prop) (h : wm_Wp 0 89 10 [.ref 59] (wm_si μ 59 3 (0 : Int32)) Q) : wm_Wp 0 89 5 [.ref 59] μ Q := wm_vc mo_89 (rt := some .int) (by decide +kernel) mc_89 128 h
-- WindBoat$Tape.fault()I, the place 10
set_option maxRecDepth 100000 in
set_option maxHeartbeats 8000000 in
theorem f_89_10 (μ : wm_M) (Q : Option Value → wm_M → Prop) (h : wm_OkV 0 90 [.ref 59] μ (fun μ1 => wm_Wp 0 89 14 [.ref 59] μ1 Q)) : wm_Wp 0 89 10 [.ref 59] μ Q := wm_vc mo_89 (rt := some .int) (by decide +kernel) mc_89 128 h
-- WindBoat$Tape.fault()I, the place 14
set_option maxRecDepth 100000 in
set_option maxHeartbeats 8000000 in
theorem f_89_14 (μ : wm_M) (Q : Option Value → wm_M → Prop) (h : (((μ.1 59 8) ≤ (2 : Int32) → wm_Wp 0 89 27 [.ref 59] μ Q) ∧ (¬ (μ.1 59 8) ≤ (2 : Int32) → Q (some (.int (μ.1 59 6))) μ))) : wm_Wp 0 89 14 [.ref 59] μ Q := wm_vc mo_89 (rt := some .int) (by decide +kernel) mc_89 128 h
-- WindBoat$Tape.fault()I, the place 27
set_option maxRecDepth 100000 in
set_option maxHeartbeats 8000000 in
theorem f_89_27 (μ : wm_M) (Q : Option Value → wm_M → Prop) (h : wm_Wp 0 89 35 [.ref 59] (wm_si μ 59 4 (μ.1 59 8)) Q) : wm_Wp 0 89 27 [.ref 59] μ Q := wm_vc mo_89 (rt := some .int) (by decide +kernel) mc_89 128 h
-- WindBoat$Tape.fault()I, the place 35
set_option maxRecDepth 100000 in
set_option maxHeartbeats 8000000 in
theorem f_89_35 (μ : wm_M) (Q : Option Value → wm_M → Prop) (h : wm_OkV 0 90 [.ref 59] μ (fun μ1 => wm_Wp 0 89 39 [.ref 59] μ1 Q)) : wm_Wp 0 89 35 [.ref 59] μ Q := wm_vc mo_89 (rt := some .int) (by decide +kernel) mc_89 128 h
-- WindBoat$Tape.fault()I, the place 39
set_option maxRecDepth 100000 in
set_option maxHeartbeats 8000000 in
theorem f_89_39 (μ : wm_M) (Q : Option Value → wm_M → Prop) (h : wm_OkI 7 97 [.ref 59, .int (0 : Int32)] μ (fun r2 μ1 => ((r2 = (0 : Int32) → wm_Wp 0 89 47 [.ref 59] μ1 Q) ∧ (¬ r2 = (0 : Int32) → wm_Wp 0 89 52 [.ref 59] μ1 Q)))) : wm_Wp 0 89 39 [.ref 59] μ Q := wm_vc mo_89 (rt := some .int) (by decide +kernel) mc_89 128 h
-- WindBoat$Tape.fault()I, the place 47
set_option maxRecDepth 100000 in
set_option maxHeartbeats 8000000 in
theorem f_89_47 (μ : wm_M) (Q : Option Value → wm_M → Prop) (h : Q (some (.int (μ.1 59 6))) μ) : wm_Wp 0 89 47 [.ref 59] μ Q := wm_vc mo_89 (rt := some .int) (by decide +kernel) mc_89 128 h
-- WindBoat$Tape.fault()I, the place 52
set_option maxRecDepth 100000 in
set_option maxHeartbeats 8000000 in
theorem f_89_52 (μ : wm_M) (Q : Option Value → wm_M → Prop) (h : wm_Wp 0 89 60 [.ref 59] (wm_si μ 59 5 (μ.1 59 3)) Q) : wm_Wp 0 89 52 [.ref 59] μ Q := wm_vc mo_89 (rt := some .int) (by decide +kernel) mc_89 128 h
-- WindBoat$Tape.fault()I, the place 60
set_option maxRecDepth 100000 in
set_option maxHeartbeats 8000000 in
theorem f_89_60 (μ : wm_M) (Q : Option Value → wm_M → Prop) (h : (((μ.1 59 8) = (9 : Int32) → wm_OkV 0 90 [.ref 59] μ (fun μ1 => wm_Wp 0 89 73 [.ref 59] μ1 Q)) ∧ (¬ (μ.1 59 8) = (9 : Int32) → wm_Wp 0 89 86 [.ref 59] μ Q))) : wm_Wp 0 89 60 [.ref 59] μ Q := wm_vc mo_89 (rt := some .int) (by decide +kernel) mc_89 128 h
-- WindBoat$Tape.fault()I, the place 73
set_option maxRecDepth 100000 in
set_option maxHeartbeats 8000000 in
theorem f_89_73 (μ : wm_M) (Q : Option Value → wm_M → Prop) (h : wm_OkI 7 97 [.ref 59, .int (0 : Int32)] μ (fun r2 μ1 => ((r2 = (0 : Int32) → wm_Wp 0 89 81 [.ref 59] μ1 Q) ∧ (¬ r2 = (0 : Int32) → wm_Wp 0 89 86 [.ref 59] μ1 Q)))) : wm_Wp 0 89 73 [.ref 59] μ Q := wm_vc mo_89 (rt := some .int) (by decide +kernel) mc_89 128 h
-- WindBoat$Tape.fault()I, the place 81
set_option maxRecDepth 100000 in
set_option maxHeartbeats 8000000 in
theorem f_89_81 (μ : wm_M) (Q : Option Value → wm_M → Prop) (h : Q (some (.int (μ.1 59 6))) μ) : wm_Wp 0 89 81 [.ref 59] μ Q := wm_vc mo_89 (rt := some .int) (by decide +kernel) mc_89 128 h
-- WindBoat$Tape.fault()I, the place 86
set_option maxRecDepth 100000 in
set_option maxHeartbeats 8000000 in
theorem f_89_86 (μ : wm_M) (Q : Option Value → wm_M → Prop) (h : (((μ.1 59 8) = (128 : Int32) → Q (some (.int (-1 : Int32))) μ) ∧ (¬ (μ.1 59 8) = (128 : Int32) → wm_Wp 0 89 100 [.ref 59] μ Q))) : wm_Wp 0 89 86 [.ref 59] μ Q := wm_vc mo_89 (rt := some .int) (by decide +kernel) mc_89 128 h
-- WindBoat$Tape.fault()I, the place 100
set_option maxRecDepth 100000 in
set_option maxHeartbeats 8000000 in
theorem f_89_100 (μ : wm_M) (Q : Option Value → wm_M → Prop) (h : Q (some (.int (μ.1 59 6))) μ) : wm_Wp 0 89 100 [.ref 59] μ Q := wm_vc mo_89 (rt := some .int) (by decide +kernel) mc_89 128 h
-- WindBoat$Tape.advanceByNumber()V
set_option maxRecDepth 100000 in
set_option maxHeartbeats 8000000 in
theorem f_93 (μ : wm_M) (Q : Option Value → wm_M → Prop) (h : wm_Wp 0 93 5 [.ref 59] (wm_si μ 59 9 (0 : Int32)) Q) : wm_Ok 0 93 [.ref 59] μ Q := wm_ent (nL := 1) (l := [.ref 59]) (by decide +kernel) (by decide +kernel) (by decide +kernel) rfl rfl (wm_vc mo_93 (rt := none) (by decide +kernel) mc_93 118 h)
-- WindBoat$Tape.advanceByNumber()V, the place 5
set_option maxRecDepth 100000 in
set_option maxHeartbeats 8000000 in
theorem f_93_5 (μ : wm_M) (Q : Option Value → wm_M → Prop) (h : (((μ.1 59 1) ≤ (μ.1 59 7) → wm_Wp 0 93 68 [.ref 59] μ Q) ∧ (¬ (μ.1 59 1) ≤ (μ.1 59 7) → (vp_in (μ.1 59 7) 120 ∧ wm_OkI 0 95 [.int (μ.1 60 ((μ.1 59 7)).toNatClampNeg)] μ (fun r2 μ1 => ((r2 = (0 : Int32) → wm_Wp 0 93 68 [.ref 59] μ1 Q) ∧ (¬ r2 = (0 : Int32) → wm_Wp 0 93 31 [.ref 59] μ1 Q))))))) : wm_Wp 0 93 5 [.ref 59] μ Q := wm_vc mo_93 (rt := none) (by decide +kernel) mc_93 118 h
-- WindBoat$Tape.advanceByNumber()V, the place 31
set_option maxRecDepth 100000 in
set_option maxHeartbeats 8000000 in
theorem f_93_31 (μ : wm_M) (Q : Option Value → wm_M → Prop) (h : (vp_in (μ.1 59 7) 120 ∧ wm_Wp 0 93 55 [.ref 59] (wm_si μ 59 9 ((((μ.1 59 9) * (10 : Int32)) + (μ.1 60 ((μ.1 59 7)).toNatClampNeg)) - (48 : Int32))) Q)) : wm_Wp 0 93 31 [.ref 59] μ Q := wm_vc mo_93 (rt := none) (by decide +kernel) mc_93 118 h
-- WindBoat$Tape.advanceByNumber()V, the place 55
set_option maxRecDepth 100000 in
set_option maxHeartbeats 8000000 in
theorem f_93_55 (μ : wm_M) (Q : Option Value → wm_M → Prop) (h : wm_Wp 0 93 65 [.ref 59] (wm_si μ 59 7 ((μ.1 59 7) + (1 : Int32))) Q) : wm_Wp 0 93 55 [.ref 59] μ Q := wm_vc mo_93 (rt := none) (by decide +kernel) mc_93 118 h
-- WindBoat$Tape.advanceByNumber()V, the place 65
set_option maxRecDepth 100000 in
set_option maxHeartbeats 8000000 in
theorem f_93_65 (μ : wm_M) (Q : Option Value → wm_M → Prop) (h : wm_Wp 0 93 5 [.ref 59] μ Q) : wm_Wp 0 93 65 [.ref 59] μ Q := wm_vc mo_93 (rt := none) (by decide +kernel) mc_93 118 h
-- WindBoat$Tape.advanceByNumber()V, the place 68
set_option maxRecDepth 100000 in
set_option maxHeartbeats 8000000 in
theorem f_93_68 (μ : wm_M) (Q : Option Value → wm_M → Prop) (h : ((((μ.1 59 7) - (μ.1 59 6)) ≤ (5 : Int32) → wm_Wp 0 93 94 [.null] (wm_si μ 59 8 (129 : Int32)) Q) ∧ (¬ ((μ.1 59 7) - (μ.1 59 6)) ≤ (5 : Int32) → wm_Wp 0 93 94 [.null] (wm_si μ 59 8 (130 : Int32)) Q))) : wm_Wp 0 93 68 [.ref 59] μ Q := wm_vc mo_93 (rt := none) (by decide +kernel) mc_93 118 h
-- WindBoat$Tape.advanceByNumber()V, the place 94
set_option maxRecDepth 100000 in
set_option maxHeartbeats 8000000 in
theorem f_93_94 (μ : wm_M) (Q : Option Value → wm_M → Prop) (h : Q none μ) : wm_Wp 0 93 94 [.null] μ Q := wm_vc mo_93 (rt := none) (by decide +kernel) mc_93 118 h
-- WindBoat$Tape.isLetter(I)Z
set_option maxRecDepth 100000 in
set_option maxHeartbeats 8000000 in
theorem f_94 (a0 : Int32) (μ : wm_M) (Q : Option Value → wm_M → Prop) (h : ((a0 < (97 : Int32) → wm_Wp 0 94 16 [.null] μ Q) ∧ (¬ a0 < (97 : Int32) → (((122 : Int32) < a0 → wm_Wp 0 94 16 [.null] μ Q) ∧ (¬ (122 : Int32) < a0 → (((1 : Int32) = 0 ∨ (1 : Int32) = 1) ∧ Q (some (.int (1 : Int32))) μ)))))) : wm_Ok 0 94 [.int a0] μ Q := wm_ent (nL := 1) (l := [.int a0]) (by decide +kernel) (by decide +kernel) (by decide +kernel) rfl rfl (wm_vc mo_94 (rt := some .boolean) (by decide +kernel) mc_94 40 h)
-- WindBoat$Tape.isLetter(I)Z, the place 16
set_option maxRecDepth 100000 in
set_option maxHeartbeats 8000000 in
theorem f_94_16 (μ : wm_M) (Q : Option Value → wm_M → Prop) (h : (((0 : Int32) = 0 ∨ (0 : Int32) = 1) ∧ Q (some (.int (0 : Int32))) μ)) : wm_Wp 0 94 16 [.null] μ Q := wm_vc mo_94 (rt := some .boolean) (by decide +kernel) mc_94 40 h
-- WindBoat$Tape.isDigit(I)Z
set_option maxRecDepth 100000 in
set_option maxHeartbeats 8000000 in
theorem f_95 (a0 : Int32) (μ : wm_M) (Q : Option Value → wm_M → Prop) (h : ((a0 < (48 : Int32) → wm_Wp 0 95 16 [.null] μ Q) ∧ (¬ a0 < (48 : Int32) → (((57 : Int32) < a0 → wm_Wp 0 95 16 [.null] μ Q) ∧ (¬ (57 : Int32) < a0 → (((1 : Int32) = 0 ∨ (1 : Int32) = 1) ∧ Q (some (.int (1 : Int32))) μ)))))) : wm_Ok 0 95 [.int a0] μ Q := wm_ent (nL := 1) (l := [.int a0]) (by decide +kernel) (by decide +kernel) (by decide +kernel) rfl rfl (wm_vc mo_95 (rt := some .boolean) (by decide +kernel) mc_95 40 h)
-- WindBoat$Tape.isDigit(I)Z, the place 16
set_option maxRecDepth 100000 in
set_option maxHeartbeats 8000000 in
theorem f_95_16 (μ : wm_M) (Q : Option Value → wm_M → Prop) (h : (((0 : Int32) = 0 ∨ (0 : Int32) = 1) ∧ Q (some (.int (0 : Int32))) μ)) : wm_Wp 0 95 16 [.null] μ Q := wm_vc mo_95 (rt := some .boolean) (by decide +kernel) mc_95 40 h
-- WindBoat$Tape.write(I)V
set_option maxRecDepth 100000 in
set_option maxHeartbeats 8000000 in
theorem f_96 (a1 : Int32) (μ : wm_M) (Q : Option Value → wm_M → Prop) (h : (((120 : Int32) ≤ (μ.1 59 3) → wm_Wp 0 96 29 [.null, .null] μ Q) ∧ (¬ (120 : Int32) ≤ (μ.1 59 3) → (vp_in (μ.1 59 3) 120 ∧ wm_Wp 0 96 19 [.ref 59, .null] (wm_si μ 61 ((μ.1 59 3)).toNatClampNeg a1) Q)))) : wm_Ok 0 96 [.ref 59, .int a1] μ Q := wm_ent (nL := 2) (l := [.ref 59, .int a1]) (by decide +kernel) (by decide +kernel) (by decide +kernel) rfl rfl (wm_vc mo_96 (rt := none) (by decide +kernel) mc_96 54 h)
-- WindBoat$Tape.write(I)V, the place 19
set_option maxRecDepth 100000 in
set_option maxHeartbeats 8000000 in
theorem f_96_19 (μ : wm_M) (Q : Option Value → wm_M → Prop) (h : wm_Wp 0 96 29 [.null, .null] (wm_si μ 59 3 ((μ.1 59 3) + (1 : Int32))) Q) : wm_Wp 0 96 19 [.ref 59, .null] μ Q := wm_vc mo_96 (rt := none) (by decide +kernel) mc_96 54 h
-- WindBoat$Tape.write(I)V, the place 29
set_option maxRecDepth 100000 in
set_option maxHeartbeats 8000000 in
theorem f_96_29 (μ : wm_M) (Q : Option Value → wm_M → Prop) (h : Q none μ) : wm_Wp 0 96 29 [.null, .null] μ Q := wm_vc mo_96 (rt := none) (by decide +kernel) mc_96 54 h
-- WindBoat$Tape.readE(I)Z
set_option maxRecDepth 100000 in
set_option maxHeartbeats 8000000 in
theorem f_97 {e : Nat} (a1 : Int32) (μ : wm_M) (Q : Option Value → wm_M → Prop) (h : wm_OkI e 98 [.ref 59, .int a1] μ (fun r2 μ1 => ((r2 = (0 : Int32) → wm_Wp e 97 8 [.null, .null, .null] μ1 Q) ∧ (¬ r2 = (0 : Int32) → wm_Wp e 97 10 [.ref 59, .int a1, .null] μ1 Q)))) : wm_Ok e 97 [.ref 59, .int a1] μ Q := wm_ent (nL := 3) (l := [.ref 59, .int a1, .null]) (by decide +kernel) (by decide +kernel) (by decide +kernel) rfl rfl (wm_vc mo_97 (rt := some .boolean) (by decide +kernel) mc_97 80 h)
-- WindBoat$Tape.readE(I)Z, the place 8
set_option maxRecDepth 100000 in
set_option maxHeartbeats 8000000 in
theorem f_97_8 {e : Nat} (μ : wm_M) (Q : Option Value → wm_M → Prop) (h : (((0 : Int32) = 0 ∨ (0 : Int32) = 1) ∧ Q (some (.int (0 : Int32))) μ)) : wm_Wp e 97 8 [.null, .null, .null] μ Q := wm_vc mo_97 (rt := some .boolean) (by decide +kernel) mc_97 80 h
-- WindBoat$Tape.readE(I)Z, the place 10
set_option maxRecDepth 100000 in
set_option maxHeartbeats 8000000 in
theorem f_97_10 {e : Nat} (x1 : Int32) (μ : wm_M) (Q : Option Value → wm_M → Prop) (h : wm_Wp e 97 12 [.ref 59, .int x1, .int (0 : Int32)] μ Q) : wm_Wp e 97 10 [.ref 59, .int x1, .null] μ Q := wm_vc mo_97 (rt := some .boolean) (by decide +kernel) mc_97 80 h
-- WindBoat$Tape.readE(I)Z, the place 12
set_option maxRecDepth 100000 in
set_option maxHeartbeats 8000000 in
theorem f_97_12 {e : Nat} (x1 : Int32) (x2 : Int32) (μ : wm_M) (Q : Option Value → wm_M → Prop) (h : (((120 : Int32) ≤ x2 → wm_Wp e 97 53 [.null, .null, .null] μ Q) ∧ (¬ (120 : Int32) ≤ x2 → (((μ.1 59 8) = (10 : Int32) → wm_OkV 0 90 [.ref 59] μ (fun μ1 => wm_Wp e 97 31 [.ref 59, .int x1, .int x2] μ1 Q)) ∧ (¬ (μ.1 59 8) = (10 : Int32) → wm_Wp e 97 53 [.null, .null, .null] μ Q))))) : wm_Wp e 97 12 [.ref 59, .int x1, .int x2] μ Q := wm_vc mo_97 (rt := some .boolean) (by decide +kernel) mc_97 80 h
-- WindBoat$Tape.readE(I)Z, the place 31
set_option maxRecDepth 100000 in
set_option maxHeartbeats 8000000 in
theorem f_97_31 {e : Nat} (x1 : Int32) (x2 : Int32) (μ : wm_M) (Q : Option Value → wm_M → Prop) (h : wm_OkI e 98 [.ref 59, .int x1] μ (fun r2 μ1 => ((r2 = (0 : Int32) → wm_Wp e 97 39 [.null, .null, .null] μ1 Q) ∧ (¬ r2 = (0 : Int32) → wm_Wp e 97 41 [.ref 59, .int x1, .int x2] μ1 Q)))) : wm_Wp e 97 31 [.ref 59, .int x1, .int x2] μ Q := wm_vc mo_97 (rt := some .boolean) (by decide +kernel) mc_97 80 h
-- WindBoat$Tape.readE(I)Z, the place 39
set_option maxRecDepth 100000 in
set_option maxHeartbeats 8000000 in
theorem f_97_39 {e : Nat} (μ : wm_M) (Q : Option Value → wm_M → Prop) (h : (((0 : Int32) = 0 ∨ (0 : Int32) = 1) ∧ Q (some (.int (0 : Int32))) μ)) : wm_Wp e 97 39 [.null, .null, .null] μ Q := wm_vc mo_97 (rt := some .boolean) (by decide +kernel) mc_97 80 h
-- WindBoat$Tape.readE(I)Z, the place 41
set_option maxRecDepth 100000 in
set_option maxHeartbeats 8000000 in
theorem f_97_41 {e : Nat} (x1 : Int32) (x2 : Int32) (μ : wm_M) (Q : Option Value → wm_M → Prop) (h : wm_OkV 0 96 [.ref 59, .int (-110 : Int32)] μ (fun μ1 => wm_Wp e 97 47 [.ref 59, .int x1, .int x2] μ1 Q)) : wm_Wp e 97 41 [.ref 59, .int x1, .int x2] μ Q := wm_vc mo_97 (rt := some .boolean) (by decide +kernel) mc_97 80 h
-- WindBoat$Tape.readE(I)Z, the place 47
set_option maxRecDepth 100000 in
set_option maxHeartbeats 8000000 in
theorem f_97_47 {e : Nat} (x1 : Int32) (x2 : Int32) (μ : wm_M) (Q : Option Value → wm_M → Prop) (h : wm_Wp e 97 12 [.ref 59, .int x1, .int (x2 + (1 : Int32))] μ Q) : wm_Wp e 97 47 [.ref 59, .int x1, .int x2] μ Q := wm_vc mo_97 (rt := some .boolean) (by decide +kernel) mc_97 80 h
-- WindBoat$Tape.readE(I)Z, the place 53
set_option maxRecDepth 100000 in
set_option maxHeartbeats 8000000 in
theorem f_97_53 {e : Nat} (μ : wm_M) (Q : Option Value → wm_M → Prop) (h : (((1 : Int32) = 0 ∨ (1 : Int32) = 1) ∧ Q (some (.int (1 : Int32))) μ)) : wm_Wp e 97 53 [.null, .null, .null] μ Q := wm_vc mo_97 (rt := some .boolean) (by decide +kernel) mc_97 80 h
-- WindBoat$Tape.readAnd(I)Z
set_option maxRecDepth 100000 in
set_option maxHeartbeats 8000000 in
theorem f_98 {e : Nat} (a1 : Int32) (μ : wm_M) (Q : Option Value → wm_M → Prop) (h : wm_OkI e 99 [.ref 59, .int a1] μ (fun r2 μ1 => ((r2 = (0 : Int32) → wm_Wp e 98 8 [.null, .null, .null] μ1 Q) ∧ (¬ r2 = (0 : Int32) → wm_Wp e 98 10 [.ref 59, .int a1, .null] μ1 Q)))) : wm_Ok e 98 [.ref 59, .int a1] μ Q := wm_ent (nL := 3) (l := [.ref 59, .int a1, .null]) (by decide +kernel) (by decide +kernel) (by decide +kernel) rfl rfl (wm_vc mo_98 (rt := some .boolean) (by decide +kernel) mc_98 80 h)
-- WindBoat$Tape.readAnd(I)Z, the place 8
set_option maxRecDepth 100000 in
set_option maxHeartbeats 8000000 in
theorem f_98_8 {e : Nat} (μ : wm_M) (Q : Option Value → wm_M → Prop) (h : (((0 : Int32) = 0 ∨ (0 : Int32) = 1) ∧ Q (some (.int (0 : Int32))) μ)) : wm_Wp e 98 8 [.null, .null, .null] μ Q := wm_vc mo_98 (rt := some .boolean) (by decide +kernel) mc_98 80 h
-- WindBoat$Tape.readAnd(I)Z, the place 10
set_option maxRecDepth 100000 in
set_option maxHeartbeats 8000000 in
theorem f_98_10 {e : Nat} (x1 : Int32) (μ : wm_M) (Q : Option Value → wm_M → Prop) (h : wm_Wp e 98 12 [.ref 59, .int x1, .int (0 : Int32)] μ Q) : wm_Wp e 98 10 [.ref 59, .int x1, .null] μ Q := wm_vc mo_98 (rt := some .boolean) (by decide +kernel) mc_98 80 h
-- WindBoat$Tape.readAnd(I)Z, the place 12
set_option maxRecDepth 100000 in
set_option maxHeartbeats 8000000 in
theorem f_98_12 {e : Nat} (x1 : Int32) (x2 : Int32) (μ : wm_M) (Q : Option Value → wm_M → Prop) (h : (((120 : Int32) ≤ x2 → wm_Wp e 98 53 [.null, .null, .null] μ Q) ∧ (¬ (120 : Int32) ≤ x2 → (((μ.1 59 8) = (11 : Int32) → wm_OkV 0 90 [.ref 59] μ (fun μ1 => wm_Wp e 98 31 [.ref 59, .int x1, .int x2] μ1 Q)) ∧ (¬ (μ.1 59 8) = (11 : Int32) → wm_Wp e 98 53 [.null, .null, .null] μ Q))))) : wm_Wp e 98 12 [.ref 59, .int x1, .int x2] μ Q := wm_vc mo_98 (rt := some .boolean) (by decide +kernel) mc_98 80 h
-- WindBoat$Tape.readAnd(I)Z, the place 31
set_option maxRecDepth 100000 in
set_option maxHeartbeats 8000000 in
theorem f_98_31 {e : Nat} (x1 : Int32) (x2 : Int32) (μ : wm_M) (Q : Option Value → wm_M → Prop) (h : wm_OkI e 99 [.ref 59, .int x1] μ (fun r2 μ1 => ((r2 = (0 : Int32) → wm_Wp e 98 39 [.null, .null, .null] μ1 Q) ∧ (¬ r2 = (0 : Int32) → wm_Wp e 98 41 [.ref 59, .int x1, .int x2] μ1 Q)))) : wm_Wp e 98 31 [.ref 59, .int x1, .int x2] μ Q := wm_vc mo_98 (rt := some .boolean) (by decide +kernel) mc_98 80 h
-- WindBoat$Tape.readAnd(I)Z, the place 39
set_option maxRecDepth 100000 in
set_option maxHeartbeats 8000000 in
theorem f_98_39 {e : Nat} (μ : wm_M) (Q : Option Value → wm_M → Prop) (h : (((0 : Int32) = 0 ∨ (0 : Int32) = 1) ∧ Q (some (.int (0 : Int32))) μ)) : wm_Wp e 98 39 [.null, .null, .null] μ Q := wm_vc mo_98 (rt := some .boolean) (by decide +kernel) mc_98 80 h
-- WindBoat$Tape.readAnd(I)Z, the place 41
set_option maxRecDepth 100000 in
set_option maxHeartbeats 8000000 in
theorem f_98_41 {e : Nat} (x1 : Int32) (x2 : Int32) (μ : wm_M) (Q : Option Value → wm_M → Prop) (h : wm_OkV 0 96 [.ref 59, .int (-111 : Int32)] μ (fun μ1 => wm_Wp e 98 47 [.ref 59, .int x1, .int x2] μ1 Q)) : wm_Wp e 98 41 [.ref 59, .int x1, .int x2] μ Q := wm_vc mo_98 (rt := some .boolean) (by decide +kernel) mc_98 80 h
-- WindBoat$Tape.readAnd(I)Z, the place 47
set_option maxRecDepth 100000 in
set_option maxHeartbeats 8000000 in
theorem f_98_47 {e : Nat} (x1 : Int32) (x2 : Int32) (μ : wm_M) (Q : Option Value → wm_M → Prop) (h : wm_Wp e 98 12 [.ref 59, .int x1, .int (x2 + (1 : Int32))] μ Q) : wm_Wp e 98 47 [.ref 59, .int x1, .int x2] μ Q := wm_vc mo_98 (rt := some .boolean) (by decide +kernel) mc_98 80 h
-- WindBoat$Tape.readAnd(I)Z, the place 53
set_option maxRecDepth 100000 in
set_option maxHeartbeats 8000000 in
theorem f_98_53 {e : Nat} (μ : wm_M) (Q : Option Value → wm_M → Prop) (h : (((1 : Int32) = 0 ∨ (1 : Int32) = 1) ∧ Q (some (.int (1 : Int32))) μ)) : wm_Wp e 98 53 [.null, .null, .null] μ Q := wm_vc mo_98 (rt := some .boolean) (by decide +kernel) mc_98 80 h
-- WindBoat$Tape.readNot(I)Z
set_option maxRecDepth 100000 in
set_option maxHeartbeats 8000000 in
theorem f_99 {e : Nat} (a1 : Int32) (μ : wm_M) (Q : Option Value → wm_M → Prop) (h : (((μ.1 59 8) = (12 : Int32) → wm_Wp (e + 1) 99 15 [.ref 59, .int a1] μ Q) ∧ (¬ (μ.1 59 8) = (12 : Int32) → wm_OkI (e + 1) 100 [.ref 59, .int a1] μ (fun r2 μ1 => ((r2 = 0 ∨ r2 = 1) ∧ Q (some (.int r2)) μ1))))) : wm_Ok (e + 1) 99 [.ref 59, .int a1] μ Q := wm_ent (nL := 2) (l := [.ref 59, .int a1]) (by decide +kernel) (by decide +kernel) (by decide +kernel) rfl rfl (wm_vc mo_99 (rt := some .boolean) (by decide +kernel) mc_99 76 h)
-- WindBoat$Tape.readNot(I)Z, the place 15
set_option maxRecDepth 100000 in
set_option maxHeartbeats 8000000 in
theorem f_99_15 {e : Nat} (x1 : Int32) (μ : wm_M) (Q : Option Value → wm_M → Prop) (h : ((x1 = (6 : Int32) → (((0 : Int32) = 0 ∨ (0 : Int32) = 1) ∧ Q (some (.int (0 : Int32))) μ)) ∧ (¬ x1 = (6 : Int32) → wm_Wp (e + 1) 99 23 [.ref 59, .int x1] μ Q))) : wm_Wp (e + 1) 99 15 [.ref 59, .int x1] μ Q := wm_vc mo_99 (rt := some .boolean) (by decide +kernel) mc_99 76 h
-- WindBoat$Tape.readNot(I)Z, the place 23
set_option maxRecDepth 100000 in
set_option maxHeartbeats 8000000 in
theorem f_99_23 {e : Nat} (x1 : Int32) (μ : wm_M) (Q : Option Value → wm_M → Prop) (h : wm_OkV 0 90 [.ref 59] μ (fun μ1 => wm_Wp (e + 1) 99 27 [.ref 59, .int x1] μ1 Q)) : wm_Wp (e + 1) 99 23 [.ref 59, .int x1] μ Q := wm_vc mo_99 (rt := some .boolean) (by decide +kernel) mc_99 76 h
-- WindBoat$Tape.readNot(I)Z, the place 27
set_option maxRecDepth 100000 in
set_option maxHeartbeats 8000000 in
theorem f_99_27 {e : Nat} (x1 : Int32) (μ : wm_M) (Q : Option Value → wm_M → Prop) (h : wm_OkI e 99 [.ref 59, .int (x1 + (1 : Int32))] μ (fun r2 μ1 => ((r2 = (0 : Int32) → wm_Wp (e + 1) 99 37 [.null, .null] μ1 Q) ∧ (¬ r2 = (0 : Int32) → wm_Wp (e + 1) 99 39 [.ref 59, .null] μ1 Q)))) : wm_Wp (e + 1) 99 27 [.ref 59, .int x1] μ Q := wm_vc mo_99 (rt := some .boolean) (by decide +kernel) mc_99 76 h
-- WindBoat$Tape.readNot(I)Z, the place 37
set_option maxRecDepth 100000 in
set_option maxHeartbeats 8000000 in
theorem f_99_37 {e : Nat} (μ : wm_M) (Q : Option Value → wm_M → Prop) (h : (((0 : Int32) = 0 ∨ (0 : Int32) = 1) ∧ Q (some (.int (0 : Int32))) μ)) : wm_Wp (e + 1) 99 37 [.null, .null] μ Q := wm_vc mo_99 (rt := some .boolean) (by decide +kernel) mc_99 76 h
-- WindBoat$Tape.readNot(I)Z, the place 39
set_option maxRecDepth 100000 in
set_option maxHeartbeats 8000000 in
theorem f_99_39 {e : Nat} (μ : wm_M) (Q : Option Value → wm_M → Prop) (h : wm_OkV 0 96 [.ref 59, .int (-112 : Int32)] μ (fun μ1 => wm_Wp (e + 1) 99 45 [.null, .null] μ1 Q)) : wm_Wp (e + 1) 99 39 [.ref 59, .null] μ Q := wm_vc mo_99 (rt := some .boolean) (by decide +kernel) mc_99 76 h
-- WindBoat$Tape.readNot(I)Z, the place 45
set_option maxRecDepth 100000 in
set_option maxHeartbeats 8000000 in
theorem f_99_45 {e : Nat} (μ : wm_M) (Q : Option Value → wm_M → Prop) (h : (((1 : Int32) = 0 ∨ (1 : Int32) = 1) ∧ Q (some (.int (1 : Int32))) μ)) : wm_Wp (e + 1) 99 45 [.null, .null] μ Q := wm_vc mo_99 (rt := some .boolean) (by decide +kernel) mc_99 76 h
