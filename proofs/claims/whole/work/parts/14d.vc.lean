/-! ===== what each block of code asks (printed by wip/gen/genvc.py) ===== -/
-- WindBoat$Tape.readMinus(I)Z
set_option maxRecDepth 100000 in
set_option maxHeartbeats 8000000 in
theorem v_104 {e : Nat} (a1 : Int32) (μ : wm_M) (Q : Option Value → wm_M → Prop) (h : wm_OkV 0 90 [.ref 59] μ (fun μ1 => wm_OkI e 103 [.ref 59, .int a1] μ1 (fun r3 μ2 => ((r3 = (0 : Int32) → (((0 : Int32) = 0 ∨ (0 : Int32) = 1) ∧ Q (some (.int (0 : Int32))) μ2)) ∧ (¬ r3 = (0 : Int32) → wm_Wp (e + 1) 104 14 [.ref 59, .null] μ2 Q))))) : wm_Ok (e + 1) 104 [.ref 59, .int a1] μ Q := wm_ent (nL := 2) (l := [.ref 59, .int a1]) (by decide +kernel) (by decide +kernel) (by decide +kernel) rfl rfl (wm_vc mo_104 (rt := some .boolean) (by decide +kernel) mc_104 46 h)
-- WindBoat$Tape.readMinus(I)Z, the place 14
set_option maxRecDepth 100000 in
set_option maxHeartbeats 8000000 in
theorem w_104_14 {e : Nat} (μ : wm_M) (Q : Option Value → wm_M → Prop) (h : wm_OkV 0 96 [.ref 59, .int (-101 : Int32)] μ (fun μ1 => (((1 : Int32) = 0 ∨ (1 : Int32) = 1) ∧ Q (some (.int (1 : Int32))) μ1))) : wm_Wp (e + 1) 104 14 [.ref 59, .null] μ Q := wm_vc mo_104 (rt := some .boolean) (by decide +kernel) mc_104 46 h
-- WindBoat$Tape.readBrackets(I)Z
set_option maxRecDepth 100000 in
set_option maxHeartbeats 8000000 in
theorem v_105 {e : Nat} (a1 : Int32) (μ : wm_M) (Q : Option Value → wm_M → Prop) (h : wm_OkV 0 90 [.ref 59] μ (fun μ1 => wm_OkI e 97 [.ref 59, .int a1] μ1 (fun r3 μ2 => ((r3 = (0 : Int32) → wm_Wp (e + 1) 105 21 [.null, .null] μ2 Q) ∧ (¬ r3 = (0 : Int32) → (((μ2.1 59 8) = (41 : Int32) → wm_Wp (e + 1) 105 23 [.ref 59, .null] μ2 Q) ∧ (¬ (μ2.1 59 8) = (41 : Int32) → wm_Wp (e + 1) 105 21 [.null, .null] μ2 Q))))))) : wm_Ok (e + 1) 105 [.ref 59, .int a1] μ Q := wm_ent (nL := 2) (l := [.ref 59, .int a1]) (by decide +kernel) (by decide +kernel) (by decide +kernel) rfl rfl (wm_vc mo_105 (rt := some .boolean) (by decide +kernel) mc_105 52 h)
-- WindBoat$Tape.readBrackets(I)Z, the place 21
set_option maxRecDepth 100000 in
set_option maxHeartbeats 8000000 in
theorem w_105_21 {e : Nat} (μ : wm_M) (Q : Option Value → wm_M → Prop) (h : (((0 : Int32) = 0 ∨ (0 : Int32) = 1) ∧ Q (some (.int (0 : Int32))) μ)) : wm_Wp (e + 1) 105 21 [.null, .null] μ Q := wm_vc mo_105 (rt := some .boolean) (by decide +kernel) mc_105 52 h
-- WindBoat$Tape.readBrackets(I)Z, the place 23
set_option maxRecDepth 100000 in
set_option maxHeartbeats 8000000 in
theorem w_105_23 {e : Nat} (μ : wm_M) (Q : Option Value → wm_M → Prop) (h : wm_OkV 0 90 [.ref 59] μ (fun μ1 => (((1 : Int32) = 0 ∨ (1 : Int32) = 1) ∧ Q (some (.int (1 : Int32))) μ1))) : wm_Wp (e + 1) 105 23 [.ref 59, .null] μ Q := wm_vc mo_105 (rt := some .boolean) (by decide +kernel) mc_105 52 h
-- WindBoat$Ways.find(IIII)I
set_option maxRecDepth 100000 in
set_option maxHeartbeats 8000000 in
theorem v_107 (a1 : Int32) (a2 : Int32) (a3 : Int32) (a4 : Int32) (μ : wm_M) (Q : Option Value → wm_M → Prop) (h : wm_OkV 0 343 [.ref 70, .int (999 : Int32)] (wm_si μ 69 7 a3) (fun μ1 => wm_OkV 0 343 [.ref 73, .int (-1 : Int32)] μ1 (fun μ2 => wm_OkV 0 110 [.ref 69, .int a1, .int a2] μ2 (fun μ3 => wm_Wp 0 107 32 [.ref 69, .null, .null, .null, .int a4, .int a2, .null, .null, .null] μ3 Q)))) : wm_Ok 0 107 [.ref 69, .int a1, .int a2, .int a3, .int a4] μ Q := wm_ent (nL := 9) (l := [.ref 69, .int a1, .int a2, .int a3, .int a4, .null, .null, .null, .null]) (by decide +kernel) (by decide +kernel) (by decide +kernel) rfl rfl (wm_vc mo_107 (rt := some .int) (by decide +kernel) mc_107 136 h)
-- WindBoat$Ways.find(IIII)I, the place 32
set_option maxRecDepth 100000 in
set_option maxHeartbeats 8000000 in
theorem w_107_32 (x4 : Int32) (x5 : Int32) (μ : wm_M) (Q : Option Value → wm_M → Prop) (h : (((120 : Int32) < x5 → wm_Wp 0 107 113 [.null, .null, .null, .null, .null, .null, .null, .null, .null] μ Q) ∧ (¬ (120 : Int32) < x5 → wm_OkI 0 108 [.ref 69, .int x4, .int x5] μ (fun r2 μ1 => ((r2 = (-1 : Int32) → wm_Wp 0 107 58 [.ref 69, .null, .null, .null, .int x4, .int x5, .null, .null, .null] μ1 Q) ∧ (¬ r2 = (-1 : Int32) → Q (some (.int r2)) μ1)))))) : wm_Wp 0 107 32 [.ref 69, .null, .null, .null, .int x4, .int x5, .null, .null, .null] μ Q := wm_vc mo_107 (rt := some .int) (by decide +kernel) mc_107 136 h
-- WindBoat$Ways.find(IIII)I, the place 58
set_option maxRecDepth 100000 in
set_option maxHeartbeats 8000000 in
theorem w_107_58 (x4 : Int32) (x5 : Int32) (μ : wm_M) (Q : Option Value → wm_M → Prop) (h : (vp_in x5 121 ∧ wm_Wp 0 107 70 [.ref 69, .null, .null, .null, .int x4, .int x5, .null, .int (μ.1 73 (x5).toNatClampNeg), .int (0 : Int32)] μ Q)) : wm_Wp 0 107 58 [.ref 69, .null, .null, .null, .int x4, .int x5, .null, .null, .null] μ Q := wm_vc mo_107 (rt := some .int) (by decide +kernel) mc_107 136 h
-- WindBoat$Ways.find(IIII)I, the place 70
set_option maxRecDepth 100000 in
set_option maxHeartbeats 8000000 in
theorem w_107_70 (x4 : Int32) (x5 : Int32) (x7 : Int32) (x8 : Int32) (μ : wm_M) (Q : Option Value → wm_M → Prop) (h : (((864 : Int32) ≤ x8 → wm_Wp 0 107 107 [.ref 69, .null, .null, .null, .int x4, .int x5, .null, .null, .null] μ Q) ∧ (¬ (864 : Int32) ≤ x8 → ((x7 = (-1 : Int32) → wm_Wp 0 107 107 [.ref 69, .null, .null, .null, .int x4, .int x5, .null, .null, .null] μ Q) ∧ (¬ x7 = (-1 : Int32) → wm_OkV 0 109 [.ref 69, .int x7, .int x5] μ (fun μ1 => (vp_in x7 864 ∧ wm_Wp 0 107 70 [.ref 69, .null, .null, .null, .int x4, .int x5, .null, .int (μ1.1 71 (x7).toNatClampNeg), .int (x8 + (1 : Int32))] μ1 Q))))))) : wm_Wp 0 107 70 [.ref 69, .null, .null, .null, .int x4, .int x5, .null, .int x7, .int x8] μ Q := wm_vc mo_107 (rt := some .int) (by decide +kernel) mc_107 136 h
-- WindBoat$Ways.find(IIII)I, the place 107
set_option maxRecDepth 100000 in
set_option maxHeartbeats 8000000 in
theorem w_107_107 (x4 : Int32) (x5 : Int32) (μ : wm_M) (Q : Option Value → wm_M → Prop) (h : wm_Wp 0 107 32 [.ref 69, .null, .null, .null, .int x4, .int (x5 + (1 : Int32)), .null, .null, .null] μ Q) : wm_Wp 0 107 107 [.ref 69, .null, .null, .null, .int x4, .int x5, .null, .null, .null] μ Q := wm_vc mo_107 (rt := some .int) (by decide +kernel) mc_107 136 h
-- WindBoat$Ways.find(IIII)I, the place 113
set_option maxRecDepth 100000 in
set_option maxHeartbeats 8000000 in
theorem w_107_113 (μ : wm_M) (Q : Option Value → wm_M → Prop) (h : Q (some (.int (-1 : Int32))) μ) : wm_Wp 0 107 113 [.null, .null, .null, .null, .null, .null, .null, .null, .null] μ Q := wm_vc mo_107 (rt := some .int) (by decide +kernel) mc_107 136 h
-- WindBoat$Ways.labelledIn(II)I
set_option maxRecDepth 100000 in
set_option maxHeartbeats 8000000 in
theorem v_108 (a1 : Int32) (a2 : Int32) (μ : wm_M) (Q : Option Value → wm_M → Prop) (h : wm_Wp 0 108 2 [.ref 69, .int a1, .int a2, .int (0 : Int32), .null] μ Q) : wm_Ok 0 108 [.ref 69, .int a1, .int a2] μ Q := wm_ent (nL := 5) (l := [.ref 69, .int a1, .int a2, .null, .null]) (by decide +kernel) (by decide +kernel) (by decide +kernel) rfl rfl (wm_vc mo_108 (rt := some .int) (by decide +kernel) mc_108 66 h)
-- WindBoat$Ways.labelledIn(II)I, the place 2
set_option maxRecDepth 100000 in
set_option maxHeartbeats 8000000 in
theorem w_108_2 (x1 : Int32) (x2 : Int32) (x3 : Int32) (μ : wm_M) (Q : Option Value → wm_M → Prop) (h : (((24 : Int32) ≤ x3 → wm_Wp 0 108 36 [.null, .null, .null, .null, .null] μ Q) ∧ (¬ (24 : Int32) ≤ x3 → (vp_in ((x1 * (24 : Int32)) + x3) 864 ∧ (((μ.1 70 (((x1 * (24 : Int32)) + x3)).toNatClampNeg) = x2 → Q (some (.int ((x1 * (24 : Int32)) + x3))) μ) ∧ (¬ (μ.1 70 (((x1 * (24 : Int32)) + x3)).toNatClampNeg) = x2 → wm_Wp 0 108 30 [.ref 69, .int x1, .int x2, .int x3, .null] μ Q)))))) : wm_Wp 0 108 2 [.ref 69, .int x1, .int x2, .int x3, .null] μ Q := wm_vc mo_108 (rt := some .int) (by decide +kernel) mc_108 66 h
-- WindBoat$Ways.labelledIn(II)I, the place 30
set_option maxRecDepth 100000 in
set_option maxHeartbeats 8000000 in
theorem w_108_30 (x1 : Int32) (x2 : Int32) (x3 : Int32) (μ : wm_M) (Q : Option Value → wm_M → Prop) (h : wm_Wp 0 108 2 [.ref 69, .int x1, .int x2, .int (x3 + (1 : Int32)), .null] μ Q) : wm_Wp 0 108 30 [.ref 69, .int x1, .int x2, .int x3, .null] μ Q := wm_vc mo_108 (rt := some .int) (by decide +kernel) mc_108 66 h
-- WindBoat$Ways.labelledIn(II)I, the place 36
set_option maxRecDepth 100000 in
set_option maxHeartbeats 8000000 in
theorem w_108_36 (μ : wm_M) (Q : Option Value → wm_M → Prop) (h : Q (some (.int (-1 : Int32))) μ) : wm_Wp 0 108 36 [.null, .null, .null, .null, .null] μ Q := wm_vc mo_108 (rt := some .int) (by decide +kernel) mc_108 66 h
-- WindBoat$Ways.spread(II)V
set_option maxRecDepth 100000 in
set_option maxHeartbeats 8000000 in
theorem v_109 (a1 : Int32) (a2 : Int32) (μ : wm_M) (Q : Option Value → wm_M → Prop) (h : (¬ (3 : Int32) = 0 ∧ (¬ (3 : Int32) = 0 ∧ (¬ (8 : Int32) = 0 ∧ (¬ (24 : Int32) = 0 ∧ wm_Wp 0 109 21 [.ref 69, .int a1, .int a2, .int (a1 - a1 / (3 : Int32) * (3 : Int32)), .int ((a1 / (3 : Int32)) - (a1 / (3 : Int32)) / (8 : Int32) * (8 : Int32)), .int (a1 / (24 : Int32)), .int (0 : Int32)] μ Q))))) : wm_Ok 0 109 [.ref 69, .int a1, .int a2] μ Q := wm_ent (nL := 7) (l := [.ref 69, .int a1, .int a2, .null, .null, .null, .null]) (by decide +kernel) (by decide +kernel) (by decide +kernel) rfl rfl (wm_vc mo_109 (rt := none) (by decide +kernel) mc_109 206 h)
-- WindBoat$Ways.spread(II)V, the place 21
set_option maxRecDepth 100000 in
set_option maxHeartbeats 8000000 in
theorem w_109_21 (x1 : Int32) (x2 : Int32) (x3 : Int32) (x4 : Int32) (x5 : Int32) (x6 : Int32) (μ : wm_M) (Q : Option Value → wm_M → Prop) (h : (((8 : Int32) ≤ x6 → wm_Wp 0 109 62 [.ref 69, .int x1, .int x2, .int x3, .int x4, .int x5, .null] μ Q) ∧ (¬ (8 : Int32) ≤ x6 → ((x6 = x4 → wm_Wp 0 109 56 [.ref 69, .int x1, .int x2, .int x3, .int x4, .int x5, .int x6] μ Q) ∧ (¬ x6 = x4 → wm_OkI 0 183 [.int x5, .int x6, .int x3] μ (fun r2 μ1 => wm_OkI 0 181 [.int x6, .int x4] μ1 (fun r4 μ3 => wm_OkV 0 110 [.ref 69, .int r2, .int (x2 + r4)] μ3 (fun μ5 => wm_Wp 0 109 56 [.ref 69, .int x1, .int x2, .int x3, .int x4, .int x5, .int x6] μ5 Q)))))))) : wm_Wp 0 109 21 [.ref 69, .int x1, .int x2, .int x3, .int x4, .int x5, .int x6] μ Q := wm_vc mo_109 (rt := none) (by decide +kernel) mc_109 206 h
-- WindBoat$Ways.spread(II)V, the place 56
set_option maxRecDepth 100000 in
set_option maxHeartbeats 8000000 in
theorem w_109_56 (x1 : Int32) (x2 : Int32) (x3 : Int32) (x4 : Int32) (x5 : Int32) (x6 : Int32) (μ : wm_M) (Q : Option Value → wm_M → Prop) (h : wm_Wp 0 109 21 [.ref 69, .int x1, .int x2, .int x3, .int x4, .int x5, .int (x6 + (1 : Int32))] μ Q) : wm_Wp 0 109 56 [.ref 69, .int x1, .int x2, .int x3, .int x4, .int x5, .int x6] μ Q := wm_vc mo_109 (rt := none) (by decide +kernel) mc_109 206 h
-- WindBoat$Ways.spread(II)V, the place 62
set_option maxRecDepth 100000 in
set_option maxHeartbeats 8000000 in
theorem w_109_62 (x1 : Int32) (x2 : Int32) (x3 : Int32) (x4 : Int32) (x5 : Int32) (μ : wm_M) (Q : Option Value → wm_M → Prop) (h : wm_Wp 0 109 65 [.ref 69, .int x1, .int x2, .int x3, .int x4, .int x5, .int (0 : Int32)] μ Q) : wm_Wp 0 109 62 [.ref 69, .int x1, .int x2, .int x3, .int x4, .int x5, .null] μ Q := wm_vc mo_109 (rt := none) (by decide +kernel) mc_109 206 h
-- WindBoat$Ways.spread(II)V, the place 65
set_option maxRecDepth 100000 in
set_option maxHeartbeats 8000000 in
theorem w_109_65 (x1 : Int32) (x2 : Int32) (x3 : Int32) (x4 : Int32) (x5 : Int32) (x6 : Int32) (μ : wm_M) (Q : Option Value → wm_M → Prop) (h : (((μ.1 13 10) ≤ x6 → wm_Wp 0 109 124 [.ref 69, .null, .int x2, .int x3, .int x4, .int x5, .null] μ Q) ∧ (¬ (μ.1 13 10) ≤ x6 → ((x6 = x3 → wm_Wp 0 109 118 [.ref 69, .int x1, .int x2, .int x3, .int x4, .int x5, .int x6] μ Q) ∧ (¬ x6 = x3 → (vp_in x6 3 ∧ (((μ.1 15 (x6).toNatClampNeg) = (0 : Int32) → wm_OkV 0 110 [.ref 69, .int ((x1 - x3) + x6), .int (x2 + (μ.1 69 7))] μ (fun μ1 => wm_Wp 0 109 118 [.ref 69, .int x1, .int x2, .int x3, .int x4, .int x5, .int x6] μ1 Q)) ∧ (¬ (μ.1 15 (x6).toNatClampNeg) = (0 : Int32) → wm_Wp 0 109 118 [.ref 69, .int x1, .int x2, .int x3, .int x4, .int x5, .int x6] μ Q)))))))) : wm_Wp 0 109 65 [.ref 69, .int x1, .int x2, .int x3, .int x4, .int x5, .int x6] μ Q := wm_vc mo_109 (rt := none) (by decide +kernel) mc_109 206 h
-- WindBoat$Ways.spread(II)V, the place 118
set_option maxRecDepth 100000 in
set_option maxHeartbeats 8000000 in
theorem w_109_118 (x1 : Int32) (x2 : Int32) (x3 : Int32) (x4 : Int32) (x5 : Int32) (x6 : Int32) (μ : wm_M) (Q : Option Value → wm_M → Prop) (h : wm_Wp 0 109 65 [.ref 69, .int x1, .int x2, .int x3, .int x4, .int x5, .int (x6 + (1 : Int32))] μ Q) : wm_Wp 0 109 118 [.ref 69, .int x1, .int x2, .int x3, .int x4, .int x5, .int x6] μ Q := wm_vc mo_109 (rt := none) (by decide +kernel) mc_109 206 h
-- WindBoat$Ways.spread(II)V, the place 124
set_option maxRecDepth 100000 in
set_option maxHeartbeats 8000000 in
theorem w_109_124 (x2 : Int32) (x3 : Int32) (x4 : Int32) (x5 : Int32) (μ : wm_M) (Q : Option Value → wm_M → Prop) (h : (vp_in ((x5 * (8 : Int32)) + x4) 288 ∧ (((μ.1 68 (((x5 * (8 : Int32)) + x4)).toNatClampNeg) = (-1 : Int32) → wm_Wp 0 109 173 [.null, .null, .null, .null, .null, .null, .null] μ Q) ∧ (¬ (μ.1 68 (((x5 * (8 : Int32)) + x4)).toNatClampNeg) = (-1 : Int32) → wm_OkI 0 183 [.int (μ.1 68 (((x5 * (8 : Int32)) + x4)).toNatClampNeg), .int x4, .int x3] μ (fun r2 μ1 => wm_OkI 0 24 [.ref 62, .int x5, .int x4, .int x3, .int x2] μ1 (fun r4 μ3 => wm_OkV 0 110 [.ref 69, .int r2, .int r4] μ3 (fun μ5 => wm_Wp 0 109 173 [.null, .null, .null, .null, .null, .null, .null] μ5 Q))))))) : wm_Wp 0 109 124 [.ref 69, .null, .int x2, .int x3, .int x4, .int x5, .null] μ Q := wm_vc mo_109 (rt := none) (by decide +kernel) mc_109 206 h
-- WindBoat$Ways.spread(II)V, the place 173
set_option maxRecDepth 100000 in
set_option maxHeartbeats 8000000 in
theorem w_109_173 (μ : wm_M) (Q : Option Value → wm_M → Prop) (h : Q none μ) : wm_Wp 0 109 173 [.null, .null, .null, .null, .null, .null, .null] μ Q := wm_vc mo_109 (rt := none) (by decide +kernel) mc_109 206 h
-- WindBoat$Ways.lower(II)V
set_option maxRecDepth 100000 in
set_option maxHeartbeats 8000000 in
theorem v_110 (a1 : Int32) (a2 : Int32) (μ : wm_M) (Q : Option Value → wm_M → Prop) (h : (((120 : Int32) < a2 → wm_Wp 0 110 16 [.null, .null, .null] μ Q) ∧ (¬ (120 : Int32) < a2 → (vp_in a1 864 ∧ ((a2 < (μ.1 70 (a1).toNatClampNeg) → wm_Wp 0 110 17 [.ref 69, .int a1, .int a2] μ Q) ∧ (¬ a2 < (μ.1 70 (a1).toNatClampNeg) → wm_Wp 0 110 16 [.null, .null, .null] μ Q)))))) : wm_Ok 0 110 [.ref 69, .int a1, .int a2] μ Q := wm_ent (nL := 3) (l := [.ref 69, .int a1, .int a2]) (by decide +kernel) (by decide +kernel) (by decide +kernel) rfl rfl (wm_vc mo_110 (rt := none) (by decide +kernel) mc_110 134 h)
-- WindBoat$Ways.lower(II)V, the place 16
set_option maxRecDepth 100000 in
set_option maxHeartbeats 8000000 in
theorem w_110_16 (μ : wm_M) (Q : Option Value → wm_M → Prop) (h : Q none μ) : wm_Wp 0 110 16 [.null, .null, .null] μ Q := wm_vc mo_110 (rt := none) (by decide +kernel) mc_110 134 h
-- WindBoat$Ways.lower(II)V, the place 17
set_option maxRecDepth 100000 in
set_option maxHeartbeats 8000000 in
theorem w_110_17 (x1 : Int32) (x2 : Int32) (μ : wm_M) (Q : Option Value → wm_M → Prop) (h : (vp_in x1 864 ∧ (((μ.1 70 (x1).toNatClampNeg) = (999 : Int32) → wm_Wp 0 110 34 [.ref 69, .int x1, .int x2] μ Q) ∧ (¬ (μ.1 70 (x1).toNatClampNeg) = (999 : Int32) → wm_OkV 0 111 [.ref 69, .int x1] μ (fun μ1 => wm_Wp 0 110 34 [.ref 69, .int x1, .int x2] μ1 Q))))) : wm_Wp 0 110 17 [.ref 69, .int x1, .int x2] μ Q := wm_vc mo_110 (rt := none) (by decide +kernel) mc_110 134 h
-- WindBoat$Ways.lower(II)V, the place 34
set_option maxRecDepth 100000 in
set_option maxHeartbeats 8000000 in
theorem w_110_34 (x1 : Int32) (x2 : Int32) (μ : wm_M) (Q : Option Value → wm_M → Prop) (h : (vp_in x1 864 ∧ (vp_in x1 864 ∧ (vp_in x2 121 ∧ (vp_in x1 864 ∧ (vp_in x2 121 ∧ ((((wm_si (wm_si (wm_si μ 70 (x1).toNatClampNeg x2) 72 (x1).toNatClampNeg (-1 : Int32)) 71 (x1).toNatClampNeg ((wm_si (wm_si μ 70 (x1).toNatClampNeg x2) 72 (x1).toNatClampNeg (-1 : Int32)).1 73 (x2).toNatClampNeg)).1 73 (x2).toNatClampNeg) = (-1 : Int32) → wm_Wp 0 110 82 [.ref 69, .int x1, .int x2] (wm_si (wm_si (wm_si μ 70 (x1).toNatClampNeg x2) 72 (x1).toNatClampNeg (-1 : Int32)) 71 (x1).toNatClampNeg ((wm_si (wm_si μ 70 (x1).toNatClampNeg x2) 72 (x1).toNatClampNeg (-1 : Int32)).1 73 (x2).toNatClampNeg)) Q) ∧ (¬ ((wm_si (wm_si (wm_si μ 70 (x1).toNatClampNeg x2) 72 (x1).toNatClampNeg (-1 : Int32)) 71 (x1).toNatClampNeg ((wm_si (wm_si μ 70 (x1).toNatClampNeg x2) 72 (x1).toNatClampNeg (-1 : Int32)).1 73 (x2).toNatClampNeg)).1 73 (x2).toNatClampNeg) = (-1 : Int32) → (vp_in x2 121 ∧ (vp_in ((wm_si (wm_si (wm_si μ 70 (x1).toNatClampNeg x2) 72 (x1).toNatClampNeg (-1 : Int32)) 71 (x1).toNatClampNeg ((wm_si (wm_si μ 70 (x1).toNatClampNeg x2) 72 (x1).toNatClampNeg (-1 : Int32)).1 73 (x2).toNatClampNeg)).1 73 (x2).toNatClampNeg) 864 ∧ wm_Wp 0 110 82 [.ref 69, .int x1, .int x2] (wm_si (wm_si (wm_si (wm_si μ 70 (x1).toNatClampNeg x2) 72 (x1).toNatClampNeg (-1 : Int32)) 71 (x1).toNatClampNeg ((wm_si (wm_si μ 70 (x1).toNatClampNeg x2) 72 (x1).toNatClampNeg (-1 : Int32)).1 73 (x2).toNatClampNeg)) 72 (((wm_si (wm_si (wm_si μ 70 (x1).toNatClampNeg x2) 72 (x1).toNatClampNeg (-1 : Int32)) 71 (x1).toNatClampNeg ((wm_si (wm_si μ 70 (x1).toNatClampNeg x2) 72 (x1).toNatClampNeg (-1 : Int32)).1 73 (x2).toNatClampNeg)).1 73 (x2).toNatClampNeg)).toNatClampNeg x1) Q)))))))))) : wm_Wp 0 110 34 [.ref 69, .int x1, .int x2] μ Q := wm_vc mo_110 (rt := none) (by decide +kernel) mc_110 134 h
-- WindBoat$Ways.lower(II)V, the place 82
set_option maxRecDepth 100000 in
set_option maxHeartbeats 8000000 in
theorem w_110_82 (x1 : Int32) (x2 : Int32) (μ : wm_M) (Q : Option Value → wm_M → Prop) (h : (vp_in x2 121 ∧ Q none (wm_si μ 73 (x2).toNatClampNeg x1))) : wm_Wp 0 110 82 [.ref 69, .int x1, .int x2] μ Q := wm_vc mo_110 (rt := none) (by decide +kernel) mc_110 134 h
-- WindBoat$Ways.unlink(I)V
set_option maxRecDepth 100000 in
set_option maxHeartbeats 8000000 in
theorem v_111 (a1 : Int32) (μ : wm_M) (Q : Option Value → wm_M → Prop) (h : (vp_in a1 864 ∧ (((μ.1 72 (a1).toNatClampNeg) = (-1 : Int32) → (vp_in a1 864 ∧ (vp_in a1 864 ∧ (vp_in (μ.1 70 (a1).toNatClampNeg) 121 ∧ wm_Wp 0 111 47 [.ref 69, .int a1] (wm_si μ 73 ((μ.1 70 (a1).toNatClampNeg)).toNatClampNeg (μ.1 71 (a1).toNatClampNeg)) Q)))) ∧ (¬ (μ.1 72 (a1).toNatClampNeg) = (-1 : Int32) → wm_Wp 0 111 30 [.ref 69, .int a1] μ Q)))) : wm_Ok 0 111 [.ref 69, .int a1] μ Q := wm_ent (nL := 2) (l := [.ref 69, .int a1]) (by decide +kernel) (by decide +kernel) (by decide +kernel) rfl rfl (wm_vc mo_111 (rt := none) (by decide +kernel) mc_111 114 h)
-- WindBoat$Ways.unlink(I)V, the place 30
set_option maxRecDepth 100000 in
set_option maxHeartbeats 8000000 in
theorem w_111_30 (x1 : Int32) (μ : wm_M) (Q : Option Value → wm_M → Prop) (h : (vp_in x1 864 ∧ (vp_in x1 864 ∧ (vp_in (μ.1 72 (x1).toNatClampNeg) 864 ∧ wm_Wp 0 111 47 [.ref 69, .int x1] (wm_si μ 71 ((μ.1 72 (x1).toNatClampNeg)).toNatClampNeg (μ.1 71 (x1).toNatClampNeg)) Q)))) : wm_Wp 0 111 30 [.ref 69, .int x1] μ Q := wm_vc mo_111 (rt := none) (by decide +kernel) mc_111 114 h
-- WindBoat$Ways.unlink(I)V, the place 47
set_option maxRecDepth 100000 in
set_option maxHeartbeats 8000000 in
theorem w_111_47 (x1 : Int32) (μ : wm_M) (Q : Option Value → wm_M → Prop) (h : (vp_in x1 864 ∧ (((μ.1 71 (x1).toNatClampNeg) = (-1 : Int32) → wm_Wp 0 111 74 [.null, .null] μ Q) ∧ (¬ (μ.1 71 (x1).toNatClampNeg) = (-1 : Int32) → (vp_in x1 864 ∧ (vp_in x1 864 ∧ (vp_in (μ.1 71 (x1).toNatClampNeg) 864 ∧ wm_Wp 0 111 74 [.null, .null] (wm_si μ 72 ((μ.1 71 (x1).toNatClampNeg)).toNatClampNeg (μ.1 72 (x1).toNatClampNeg)) Q))))))) : wm_Wp 0 111 47 [.ref 69, .int x1] μ Q := wm_vc mo_111 (rt := none) (by decide +kernel) mc_111 114 h
-- WindBoat$Ways.unlink(I)V, the place 74
set_option maxRecDepth 100000 in
set_option maxHeartbeats 8000000 in
theorem w_111_74 (μ : wm_M) (Q : Option Value → wm_M → Prop) (h : Q none μ) : wm_Wp 0 111 74 [.null, .null] μ Q := wm_vc mo_111 (rt := none) (by decide +kernel) mc_111 114 h
-- WindBoat$Ways.makePlan(IIII)I
set_option maxRecDepth 100000 in
set_option maxHeartbeats 8000000 in
theorem v_112 (a1 : Int32) (a2 : Int32) (a3 : Int32) (a4 : Int32) (μ : wm_M) (Q : Option Value → wm_M → Prop) (h : wm_OkI 0 107 [.ref 69, .int a1, .int a2, .int a3, .int a4] μ (fun r2 μ1 => ((r2 = (-1 : Int32) → Q (some (.int (-1 : Int32))) μ1) ∧ (¬ r2 = (-1 : Int32) → wm_Wp 0 112 19 [.ref 69, .int a1, .null, .null, .null, .int r2, .null, .null, .null] μ1 Q)))) : wm_Ok 0 112 [.ref 69, .int a1, .int a2, .int a3, .int a4] μ Q := wm_ent (nL := 9) (l := [.ref 69, .int a1, .int a2, .int a3, .int a4, .null, .null, .null, .null]) (by decide +kernel) (by decide +kernel) (by decide +kernel) rfl rfl (wm_vc mo_112 (rt := some .int) (by decide +kernel) mc_112 146 h)
-- WindBoat$Ways.makePlan(IIII)I, the place 19
set_option maxRecDepth 100000 in
set_option maxHeartbeats 8000000 in
theorem w_112_19 (x1 : Int32) (x5 : Int32) (μ : wm_M) (Q : Option Value → wm_M → Prop) (h : wm_Wp 0 112 25 [.ref 69, .int x1, .null, .null, .null, .int x5, .int (0 : Int32), .int (0 : Int32), .null] μ Q) : wm_Wp 0 112 19 [.ref 69, .int x1, .null, .null, .null, .int x5, .null, .null, .null] μ Q := wm_vc mo_112 (rt := some .int) (by decide +kernel) mc_112 146 h
-- WindBoat$Ways.makePlan(IIII)I, the place 25
set_option maxRecDepth 100000 in
set_option maxHeartbeats 8000000 in
theorem w_112_25 (x1 : Int32) (x5 : Int32) (x6 : Int32) (x7 : Int32) (μ : wm_M) (Q : Option Value → wm_M → Prop) (h : (((120 : Int32) ≤ x7 → wm_Wp 0 112 102 [.ref 69, .null, .null, .null, .null, .null, .int x6, .null, .null] μ Q) ∧ (¬ (120 : Int32) ≤ x7 → ((x5 = x1 → wm_Wp 0 112 102 [.ref 69, .null, .null, .null, .null, .null, .int x6, .null, .null] μ Q) ∧ (¬ x5 = x1 → wm_OkI 0 114 [.ref 69, .int x5] μ (fun r2 μ1 => ((r2 = (-1 : Int32) → Q (some (.int (-1 : Int32))) μ1) ∧ (¬ r2 = (-1 : Int32) → wm_Wp 0 112 54 [.ref 69, .int x1, .null, .null, .null, .int x5, .int x6, .int x7, .int r2] μ1 Q)))))))) : wm_Wp 0 112 25 [.ref 69, .int x1, .null, .null, .null, .int x5, .int x6, .int x7, .null] μ Q := wm_vc mo_112 (rt := some .int) (by decide +kernel) mc_112 146 h
-- WindBoat$Ways.makePlan(IIII)I, the place 54
set_option maxRecDepth 100000 in
set_option maxHeartbeats 8000000 in
theorem w_112_54 (x1 : Int32) (x5 : Int32) (x6 : Int32) (x7 : Int32) (x8 : Int32) (μ : wm_M) (Q : Option Value → wm_M → Prop) (h : (¬ (24 : Int32) = 0 ∧ (¬ (24 : Int32) = 0 ∧ (((x8 / (24 : Int32)) = (x5 / (24 : Int32)) → wm_Wp 0 112 92 [.ref 69, .int x1, .null, .null, .null, .null, .int x6, .int x7, .int x8] μ Q) ∧ (¬ (x8 / (24 : Int32)) = (x5 / (24 : Int32)) → (¬ (3 : Int32) = 0 ∧ (¬ (8 : Int32) = 0 ∧ (¬ (3 : Int32) = 0 ∧ (vp_in x6 121 ∧ wm_Wp 0 112 92 [.ref 69, .int x1, .null, .null, .null, .null, .int (x6 + (1 : Int32)), .int x7, .int x8] (wm_si μ 74 (x6).toNatClampNeg (((10 : Int32) * ((x5 / (3 : Int32)) - (x5 / (3 : Int32)) / (8 : Int32) * (8 : Int32))) + (x5 - x5 / (3 : Int32) * (3 : Int32)))) Q))))))))) : wm_Wp 0 112 54 [.ref 69, .int x1, .null, .null, .null, .int x5, .int x6, .int x7, .int x8] μ Q := wm_vc mo_112 (rt := some .int) (by decide +kernel) mc_112 146 h
-- WindBoat$Ways.makePlan(IIII)I, the place 92
set_option maxRecDepth 100000 in
set_option maxHeartbeats 8000000 in
theorem w_112_92 (x1 : Int32) (x6 : Int32) (x7 : Int32) (x8 : Int32) (μ : wm_M) (Q : Option Value → wm_M → Prop) (h : wm_Wp 0 112 25 [.ref 69, .int x1, .null, .null, .null, .int x8, .int x6, .int (x7 + (1 : Int32)), .null] μ Q) : wm_Wp 0 112 92 [.ref 69, .int x1, .null, .null, .null, .null, .int x6, .int x7, .int x8] μ Q := wm_vc mo_112 (rt := some .int) (by decide +kernel) mc_112 146 h
-- WindBoat$Ways.makePlan(IIII)I, the place 102
set_option maxRecDepth 100000 in
set_option maxHeartbeats 8000000 in
theorem w_112_102 (x6 : Int32) (μ : wm_M) (Q : Option Value → wm_M → Prop) (h : wm_OkV 0 113 [.ref 69, .int x6] μ (fun μ1 => Q (some (.int x6)) μ1)) : wm_Wp 0 112 102 [.ref 69, .null, .null, .null, .null, .null, .int x6, .null, .null] μ Q := wm_vc mo_112 (rt := some .int) (by decide +kernel) mc_112 146 h
-- WindBoat$Ways.turnRound(I)V
set_option maxRecDepth 100000 in
set_option maxHeartbeats 8000000 in
theorem v_113 (a1 : Int32) (μ : wm_M) (Q : Option Value → wm_M → Prop) (h : wm_Wp 0 113 2 [.ref 69, .int a1, .int (0 : Int32)] μ Q) : wm_Ok 0 113 [.ref 69, .int a1] μ Q := wm_ent (nL := 3) (l := [.ref 69, .int a1, .null]) (by decide +kernel) (by decide +kernel) (by decide +kernel) rfl rfl (wm_vc mo_113 (rt := none) (by decide +kernel) mc_113 80 h)
-- WindBoat$Ways.turnRound(I)V, the place 2
set_option maxRecDepth 100000 in
set_option maxHeartbeats 8000000 in
theorem w_113_2 (x1 : Int32) (x2 : Int32) (μ : wm_M) (Q : Option Value → wm_M → Prop) (h : (¬ (2 : Int32) = 0 ∧ (((x1 / (2 : Int32)) ≤ x2 → wm_Wp 0 113 43 [.null, .null, .null] μ Q) ∧ (¬ (x1 / (2 : Int32)) ≤ x2 → (vp_in ((x1 - (1 : Int32)) - x2) 121 ∧ wm_OkI 0 179 [.ref 74, .int x2, .int (μ.1 74 (((x1 - (1 : Int32)) - x2)).toNatClampNeg)] μ (fun r2 μ1 => (vp_in ((x1 - (1 : Int32)) - x2) 121 ∧ wm_Wp 0 113 2 [.ref 69, .int x1, .int (x2 + (1 : Int32))] (wm_si μ1 74 (((x1 - (1 : Int32)) - x2)).toNatClampNeg r2) Q))))))) : wm_Wp 0 113 2 [.ref 69, .int x1, .int x2] μ Q := wm_vc mo_113 (rt := none) (by decide +kernel) mc_113 80 h
-- WindBoat$Ways.turnRound(I)V, the place 43
set_option maxRecDepth 100000 in
set_option maxHeartbeats 8000000 in
theorem w_113_43 (μ : wm_M) (Q : Option Value → wm_M → Prop) (h : Q none μ) : wm_Wp 0 113 43 [.null, .null, .null] μ Q := wm_vc mo_113 (rt := none) (by decide +kernel) mc_113 80 h
-- WindBoat$Ways.cameFrom(I)I
set_option maxRecDepth 100000 in
set_option maxHeartbeats 8000000 in
theorem v_114 (a1 : Int32) (μ : wm_M) (Q : Option Value → wm_M → Prop) (h : (¬ (3 : Int32) = 0 ∧ (¬ (3 : Int32) = 0 ∧ (¬ (8 : Int32) = 0 ∧ (¬ (24 : Int32) = 0 ∧ wm_Wp 0 114 25 [.ref 69, .int a1, .int (a1 - a1 / (3 : Int32) * (3 : Int32)), .int ((a1 / (3 : Int32)) - (a1 / (3 : Int32)) / (8 : Int32) * (8 : Int32)), .int (a1 / (24 : Int32)), .int (864 : Int32), .int (0 : Int32), .null] μ Q))))) : wm_Ok 0 114 [.ref 69, .int a1] μ Q := wm_ent (nL := 8) (l := [.ref 69, .int a1, .null, .null, .null, .null, .null, .null]) (by decide +kernel) (by decide +kernel) (by decide +kernel) rfl rfl (wm_vc mo_114 (rt := some .int) (by decide +kernel) mc_114 296 h)
-- WindBoat$Ways.cameFrom(I)I, the place 25
set_option maxRecDepth 100000 in
set_option maxHeartbeats 8000000 in
theorem w_114_25 (x1 : Int32) (x2 : Int32) (x3 : Int32) (x4 : Int32) (x5 : Int32) (x6 : Int32) (μ : wm_M) (Q : Option Value → wm_M → Prop) (h : (((8 : Int32) ≤ x6 → wm_Wp 0 114 86 [.ref 69, .int x1, .int x2, .int x3, .int x4, .int x5, .null, .null] μ Q) ∧ (¬ (8 : Int32) ≤ x6 → wm_OkI 0 183 [.int x4, .int x6, .int x2] μ (fun r2 μ1 => ((x6 = x3 → wm_Wp 0 114 80 [.ref 69, .int x1, .int x2, .int x3, .int x4, .int x5, .int x6, .null] μ1 Q) ∧ (¬ x6 = x3 → (vp_in r2 864 ∧ wm_OkI 0 181 [.int x6, .int x3] μ1 (fun r4 μ3 => (vp_in x1 864 ∧ (((μ3.1 70 (x1).toNatClampNeg) < ((μ1.1 70 (r2).toNatClampNeg) + r4) → wm_Wp 0 114 80 [.ref 69, .int x1, .int x2, .int x3, .int x4, .int x5, .int x6, .null] μ3 Q) ∧ (¬ (μ3.1 70 (x1).toNatClampNeg) < ((μ1.1 70 (r2).toNatClampNeg) + r4) → wm_Wp 0 114 80 [.ref 69, .int x1, .int x2, .int x3, .int x4, .int (if r2 < x5 then r2 else x5), .int x6, .null] μ3 Q))))))))))) : wm_Wp 0 114 25 [.ref 69, .int x1, .int x2, .int x3, .int x4, .int x5, .int x6, .null] μ Q := wm_vc mo_114 (rt := some .int) (by decide +kernel) mc_114 296 h
-- WindBoat$Ways.cameFrom(I)I, the place 80
set_option maxRecDepth 100000 in
set_option maxHeartbeats 8000000 in
theorem w_114_80 (x1 : Int32) (x2 : Int32) (x3 : Int32) (x4 : Int32) (x5 : Int32) (x6 : Int32) (μ : wm_M) (Q : Option Value → wm_M → Prop) (h : wm_Wp 0 114 25 [.ref 69, .int x1, .int x2, .int x3, .int x4, .int x5, .int (x6 + (1 : Int32)), .null] μ Q) : wm_Wp 0 114 80 [.ref 69, .int x1, .int x2, .int x3, .int x4, .int x5, .int x6, .null] μ Q := wm_vc mo_114 (rt := some .int) (by decide +kernel) mc_114 296 h
-- WindBoat$Ways.cameFrom(I)I, the place 86
set_option maxRecDepth 100000 in
set_option maxHeartbeats 8000000 in
theorem w_114_86 (x1 : Int32) (x2 : Int32) (x3 : Int32) (x4 : Int32) (x5 : Int32) (μ : wm_M) (Q : Option Value → wm_M → Prop) (h : wm_Wp 0 114 89 [.ref 69, .int x1, .int x2, .int x3, .int x4, .int x5, .int (0 : Int32), .null] μ Q) : wm_Wp 0 114 86 [.ref 69, .int x1, .int x2, .int x3, .int x4, .int x5, .null, .null] μ Q := wm_vc mo_114 (rt := some .int) (by decide +kernel) mc_114 296 h
-- WindBoat$Ways.cameFrom(I)I, the place 89
set_option maxRecDepth 100000 in
set_option maxHeartbeats 8000000 in
theorem w_114_89 (x1 : Int32) (x2 : Int32) (x3 : Int32) (x4 : Int32) (x5 : Int32) (x6 : Int32) (μ : wm_M) (Q : Option Value → wm_M → Prop) (h : (((3 : Int32) ≤ x6 → wm_Wp 0 114 160 [.ref 69, .int x1, .int x2, .int x3, .int x4, .int x5, .null, .null] μ Q) ∧ (¬ (3 : Int32) ≤ x6 → (vp_in x2 3 ∧ (((μ.1 15 (x2).toNatClampNeg) = (0 : Int32) → ((x6 = x2 → wm_Wp 0 114 154 [.ref 69, .int x1, .int x2, .int x3, .int x4, .int x5, .int x6, .null] μ Q) ∧ (¬ x6 = x2 → (vp_in ((x1 - x2) + x6) 864 ∧ (vp_in x1 864 ∧ (((μ.1 70 (x1).toNatClampNeg) < ((μ.1 70 (((x1 - x2) + x6)).toNatClampNeg) + (μ.1 69 7)) → wm_Wp 0 114 154 [.ref 69, .int x1, .int x2, .int x3, .int x4, .int x5, .int x6, .null] μ Q) ∧ (¬ (μ.1 70 (x1).toNatClampNeg) < ((μ.1 70 (((x1 - x2) + x6)).toNatClampNeg) + (μ.1 69 7)) → wm_Wp 0 114 154 [.ref 69, .int x1, .int x2, .int x3, .int x4, .int (if ((x1 - x2) + x6) < x5 then ((x1 - x2) + x6) else x5), .int x6, .null] μ Q))))))) ∧ (¬ (μ.1 15 (x2).toNatClampNeg) = (0 : Int32) → wm_Wp 0 114 160 [.ref 69, .int x1, .int x2, .int x3, .int x4, .int x5, .null, .null] μ Q)))))) : wm_Wp 0 114 89 [.ref 69, .int x1, .int x2, .int x3, .int x4, .int x5, .int x6, .null] μ Q := wm_vc mo_114 (rt := some .int) (by decide +kernel) mc_114 296 h
-- WindBoat$Ways.cameFrom(I)I, the place 154
set_option maxRecDepth 100000 in
set_option maxHeartbeats 8000000 in
theorem w_114_154 (x1 : Int32) (x2 : Int32) (x3 : Int32) (x4 : Int32) (x5 : Int32) (x6 : Int32) (μ : wm_M) (Q : Option Value → wm_M → Prop) (h : wm_Wp 0 114 89 [.ref 69, .int x1, .int x2, .int x3, .int x4, .int x5, .int (x6 + (1 : Int32)), .null] μ Q) : wm_Wp 0 114 154 [.ref 69, .int x1, .int x2, .int x3, .int x4, .int x5, .int x6, .null] μ Q := wm_vc mo_114 (rt := some .int) (by decide +kernel) mc_114 296 h
-- WindBoat$Ways.cameFrom(I)I, the place 160
set_option maxRecDepth 100000 in
set_option maxHeartbeats 8000000 in
theorem w_114_160 (x1 : Int32) (x2 : Int32) (x3 : Int32) (x4 : Int32) (x5 : Int32) (μ : wm_M) (Q : Option Value → wm_M → Prop) (h : (¬ (8 : Int32) = 0 ∧ wm_OkI 0 182 [.int x4, .int ((x3 + (4 : Int32)) - (x3 + (4 : Int32)) / (8 : Int32) * (8 : Int32))] μ (fun r2 μ1 => ((r2 = (-1 : Int32) → wm_Wp 0 114 240 [.null, .null, .null, .null, .null, .int x5, .null, .null] μ1 Q) ∧ (¬ r2 = (-1 : Int32) → wm_OkI 0 183 [.int r2, .int x3, .int x2] μ1 (fun r4 μ3 => (vp_in r4 864 ∧ (vp_in x1 864 ∧ (((μ3.1 70 (x1).toNatClampNeg) ≤ (μ3.1 70 (r4).toNatClampNeg) → wm_Wp 0 114 240 [.null, .null, .null, .null, .null, .int x5, .null, .null] μ3 Q) ∧ (¬ (μ3.1 70 (x1).toNatClampNeg) ≤ (μ3.1 70 (r4).toNatClampNeg) → (vp_in r4 864 ∧ (vp_in x1 864 ∧ wm_OkI 0 25 [.ref 62, .int r2, .int x3, .int x2, .int (μ3.1 70 (r4).toNatClampNeg), .int (μ3.1 70 (x1).toNatClampNeg)] μ3 (fun r6 μ5 => ((r6 = (0 : Int32) → wm_Wp 0 114 240 [.null, .null, .null, .null, .null, .int x5, .null, .null] μ5 Q) ∧ (¬ r6 = (0 : Int32) → wm_Wp 0 114 240 [.null, .null, .null, .null, .null, .int (if r4 < x5 then r4 else x5), .null, .null] μ5 Q))))))))))))))) : wm_Wp 0 114 160 [.ref 69, .int x1, .int x2, .int x3, .int x4, .int x5, .null, .null] μ Q := wm_vc mo_114 (rt := some .int) (by decide +kernel) mc_114 296 h
-- WindBoat$Ways.cameFrom(I)I, the place 240
set_option maxRecDepth 100000 in
set_option maxHeartbeats 8000000 in
theorem w_114_240 (x5 : Int32) (μ : wm_M) (Q : Option Value → wm_M → Prop) (h : ((x5 = (864 : Int32) → Q (some (.int (-1 : Int32))) μ) ∧ (¬ x5 = (864 : Int32) → wm_Wp 0 114 252 [.null, .null, .null, .null, .null, .int x5, .null, .null] μ Q))) : wm_Wp 0 114 240 [.null, .null, .null, .null, .null, .int x5, .null, .null] μ Q := wm_vc mo_114 (rt := some .int) (by decide +kernel) mc_114 296 h
-- WindBoat$Ways.cameFrom(I)I, the place 252
set_option maxRecDepth 100000 in
set_option maxHeartbeats 8000000 in
theorem w_114_252 (x5 : Int32) (μ : wm_M) (Q : Option Value → wm_M → Prop) (h : Q (some (.int x5)) μ) : wm_Wp 0 114 252 [.null, .null, .null, .null, .null, .int x5, .null, .null] μ Q := wm_vc mo_114 (rt := some .int) (by decide +kernel) mc_114 296 h
-- WindBoat.cell(III)I
set_option maxRecDepth 100000 in
set_option maxHeartbeats 8000000 in
theorem v_116 (a1 : Int32) (a2 : Int32) (a3 : Int32) (μ : wm_M) (Q : Option Value → wm_M → Prop) (h : wm_OkI 0 167 [.int a1] μ (fun r2 μ1 => ((r2 = (0 : Int32) → wm_OkI 0 161 [.ref 0, .int (-3 : Int32)] μ1 (fun r4 μ3 => Q (some (.int r4)) μ3)) ∧ (¬ r2 = (0 : Int32) → wm_Wp 0 116 14 [.ref 0, .int a1, .int a2, .int a3, .null, .null] μ1 Q)))) : wm_Ok 0 116 [.ref 0, .int a1, .int a2, .int a3] μ Q := wm_ent (nL := 6) (l := [.ref 0, .int a1, .int a2, .int a3, .null, .null]) (by decide +kernel) (by decide +kernel) (by decide +kernel) rfl rfl (wm_vc mo_116 (rt := some .int) (by decide +kernel) mc_116 112 h)
-- WindBoat.cell(III)I, the place 14
set_option maxRecDepth 100000 in
set_option maxHeartbeats 8000000 in
theorem w_116_14 (x1 : Int32) (x2 : Int32) (x3 : Int32) (μ : wm_M) (Q : Option Value → wm_M → Prop) (h : wm_OkI 0 176 [.int x2] μ (fun r2 μ1 => ((r2 = (0 : Int32) → wm_Wp 0 116 31 [.ref 0, .null, .null, .null, .null, .null] μ1 Q) ∧ (¬ r2 = (0 : Int32) → wm_OkI 0 178 [.int x3, .int (0 : Int32), .int (90 : Int32)] μ1 (fun r4 μ3 => ((r4 = (0 : Int32) → wm_Wp 0 116 31 [.ref 0, .null, .null, .null, .null, .null] μ3 Q) ∧ (¬ r4 = (0 : Int32) → wm_Wp 0 116 38 [.ref 0, .int x1, .int x2, .int x3, .null, .null] μ3 Q))))))) : wm_Wp 0 116 14 [.ref 0, .int x1, .int x2, .int x3, .null, .null] μ Q := wm_vc mo_116 (rt := some .int) (by decide +kernel) mc_116 112 h
-- WindBoat.cell(III)I, the place 31
set_option maxRecDepth 100000 in
set_option maxHeartbeats 8000000 in
theorem w_116_31 (μ : wm_M) (Q : Option Value → wm_M → Prop) (h : wm_OkI 0 161 [.ref 0, .int (-7 : Int32)] μ (fun r2 μ1 => Q (some (.int r2)) μ1)) : wm_Wp 0 116 31 [.ref 0, .null, .null, .null, .null, .null] μ Q := wm_vc mo_116 (rt := some .int) (by decide +kernel) mc_116 112 h
-- WindBoat.cell(III)I, the place 38
set_option maxRecDepth 100000 in
set_option maxHeartbeats 8000000 in
theorem w_116_38 (x1 : Int32) (x2 : Int32) (x3 : Int32) (μ : wm_M) (Q : Option Value → wm_M → Prop) (h : wm_OkR 0 163 [.ref 0] μ (fun μ1 => (vp_in x1 36 ∧ ((x2 = (1 : Int32) → (vp_in x1 36 ∧ (vp_in x1 36 ∧ wm_OkI 0 177 [.int (μ1.1 3 (x1).toNatClampNeg)] (wm_si (wm_si μ1 3 (x1).toNatClampNeg (vp_nar .boolean (1 : Int32))) 4 (x1).toNatClampNeg x3) (fun r3 μ2 => Q (some (.int r3)) μ2)))) ∧ (¬ x2 = (1 : Int32) → (vp_in x1 36 ∧ (vp_in x1 36 ∧ wm_OkI 0 177 [.int (μ1.1 3 (x1).toNatClampNeg)] (wm_si (wm_si μ1 3 (x1).toNatClampNeg (vp_nar .boolean (0 : Int32))) 4 (x1).toNatClampNeg x3) (fun r5 μ4 => Q (some (.int r5)) μ4)))))))) : wm_Wp 0 116 38 [.ref 0, .int x1, .int x2, .int x3, .null, .null] μ Q := wm_vc mo_116 (rt := some .int) (by decide +kernel) mc_116 112 h
-- WindBoat.wind(III)I
set_option maxRecDepth 100000 in
set_option maxHeartbeats 8000000 in
theorem v_117 (a1 : Int32) (a2 : Int32) (a3 : Int32) (μ : wm_M) (Q : Option Value → wm_M → Prop) (h : wm_OkI 0 171 [.int a1] μ (fun r2 μ1 => ((r2 = (0 : Int32) → wm_OkI 0 161 [.ref 0, .int (-3 : Int32)] μ1 (fun r4 μ3 => Q (some (.int r4)) μ3)) ∧ (¬ r2 = (0 : Int32) → wm_Wp 0 117 14 [.ref 0, .int a1, .int a2, .int a3, .null, .null, .null] μ1 Q)))) : wm_Ok 0 117 [.ref 0, .int a1, .int a2, .int a3] μ Q := wm_ent (nL := 7) (l := [.ref 0, .int a1, .int a2, .int a3, .null, .null, .null]) (by decide +kernel) (by decide +kernel) (by decide +kernel) rfl rfl (wm_vc mo_117 (rt := some .int) (by decide +kernel) mc_117 124 h)
-- WindBoat.wind(III)I, the place 14
set_option maxRecDepth 100000 in
set_option maxHeartbeats 8000000 in
theorem w_117_14 (x1 : Int32) (x2 : Int32) (x3 : Int32) (μ : wm_M) (Q : Option Value → wm_M → Prop) (h : wm_OkI 0 178 [.int x2, .int (0 : Int32), .int (7 : Int32)] μ (fun r2 μ1 => ((r2 = (0 : Int32) → wm_Wp 0 117 34 [.ref 0, .null, .null, .null, .null, .null, .null] μ1 Q) ∧ (¬ r2 = (0 : Int32) → wm_OkI 0 178 [.int x3, .int (0 : Int32), .int (39 : Int32)] μ1 (fun r4 μ3 => ((r4 = (0 : Int32) → wm_Wp 0 117 34 [.ref 0, .null, .null, .null, .null, .null, .null] μ3 Q) ∧ (¬ r4 = (0 : Int32) → wm_Wp 0 117 41 [.ref 0, .int x1, .int x2, .int x3, .null, .null, .null] μ3 Q))))))) : wm_Wp 0 117 14 [.ref 0, .int x1, .int x2, .int x3, .null, .null, .null] μ Q := wm_vc mo_117 (rt := some .int) (by decide +kernel) mc_117 124 h
-- WindBoat.wind(III)I, the place 34
set_option maxRecDepth 100000 in
set_option maxHeartbeats 8000000 in
theorem w_117_34 (μ : wm_M) (Q : Option Value → wm_M → Prop) (h : wm_OkI 0 161 [.ref 0, .int (-7 : Int32)] μ (fun r2 μ1 => Q (some (.int r2)) μ1)) : wm_Wp 0 117 34 [.ref 0, .null, .null, .null, .null, .null, .null] μ Q := wm_vc mo_117 (rt := some .int) (by decide +kernel) mc_117 124 h
-- WindBoat.wind(III)I, the place 41
set_option maxRecDepth 100000 in
set_option maxHeartbeats 8000000 in
theorem w_117_41 (x1 : Int32) (x2 : Int32) (x3 : Int32) (μ : wm_M) (Q : Option Value → wm_M → Prop) (h : wm_OkR 0 163 [.ref 0] μ (fun μ1 => (¬ (10 : Int32) = 0 ∧ (¬ (10 : Int32) = 0 ∧ (vp_in (((x1 - x1 / (10 : Int32) * (10 : Int32)) * (12 : Int32)) + (x1 / (10 : Int32))) 84 ∧ (vp_in (((x1 - x1 / (10 : Int32) * (10 : Int32)) * (12 : Int32)) + (x1 / (10 : Int32))) 84 ∧ (vp_in (((x1 - x1 / (10 : Int32) * (10 : Int32)) * (12 : Int32)) + (x1 / (10 : Int32))) 84 ∧ Q (some (.int (μ1.1 6 ((((x1 - x1 / (10 : Int32) * (10 : Int32)) * (12 : Int32)) + (x1 / (10 : Int32)))).toNatClampNeg))) (wm_si (wm_si μ1 5 ((((x1 - x1 / (10 : Int32) * (10 : Int32)) * (12 : Int32)) + (x1 / (10 : Int32)))).toNatClampNeg x2) 6 ((((x1 - x1 / (10 : Int32) * (10 : Int32)) * (12 : Int32)) + (x1 / (10 : Int32)))).toNatClampNeg x3)))))))) : wm_Wp 0 117 41 [.ref 0, .int x1, .int x2, .int x3, .null, .null, .null] μ Q := wm_vc mo_117 (rt := some .int) (by decide +kernel) mc_117 124 h
-- WindBoat.blows(III)I
set_option maxRecDepth 100000 in
set_option maxHeartbeats 8000000 in
theorem v_118 (a1 : Int32) (a2 : Int32) (a3 : Int32) (μ : wm_M) (Q : Option Value → wm_M → Prop) (h : wm_OkI 0 171 [.int a1] μ (fun r2 μ1 => ((r2 = (0 : Int32) → wm_Wp 0 118 14 [.ref 0, .null, .null, .null, .null, .null] μ1 Q) ∧ (¬ r2 = (0 : Int32) → wm_OkI 0 167 [.int a2] μ1 (fun r4 μ3 => ((r4 = (0 : Int32) → wm_Wp 0 118 14 [.ref 0, .null, .null, .null, .null, .null] μ3 Q) ∧ (¬ r4 = (0 : Int32) → wm_Wp 0 118 21 [.ref 0, .int a1, .int a2, .int a3, .null, .null] μ3 Q))))))) : wm_Ok 0 118 [.ref 0, .int a1, .int a2, .int a3] μ Q := wm_ent (nL := 6) (l := [.ref 0, .int a1, .int a2, .int a3, .null, .null]) (by decide +kernel) (by decide +kernel) (by decide +kernel) rfl rfl (wm_vc mo_118 (rt := some .int) (by decide +kernel) mc_118 128 h)
-- WindBoat.blows(III)I, the place 14
set_option maxRecDepth 100000 in
set_option maxHeartbeats 8000000 in
theorem w_118_14 (μ : wm_M) (Q : Option Value → wm_M → Prop) (h : wm_OkI 0 161 [.ref 0, .int (-3 : Int32)] μ (fun r2 μ1 => Q (some (.int r2)) μ1)) : wm_Wp 0 118 14 [.ref 0, .null, .null, .null, .null, .null] μ Q := wm_vc mo_118 (rt := some .int) (by decide +kernel) mc_118 128 h
-- WindBoat.blows(III)I, the place 21
set_option maxRecDepth 100000 in
set_option maxHeartbeats 8000000 in
theorem w_118_21 (x1 : Int32) (x2 : Int32) (x3 : Int32) (μ : wm_M) (Q : Option Value → wm_M → Prop) (h : (¬ (10 : Int32) = 0 ∧ (¬ (10 : Int32) = 0 ∧ (((x3).toInt < 0 ∨ 3 < (x3).toInt → wm_Wp 0 118 128 [.ref 0, .null, .null, .null, .null, .null] μ Q) ∧ (((x3).toInt = 0 → wm_Wp 0 118 64 [.ref 0, .null, .null, .null, .int (x1 - x1 / (10 : Int32) * (10 : Int32)), .int (x1 / (10 : Int32))] μ Q) ∧ (((x3).toInt = 1 → wm_Wp 0 118 79 [.ref 0, .null, .null, .null, .int (x1 - x1 / (10 : Int32) * (10 : Int32)), .int (x1 / (10 : Int32))] μ Q) ∧ (((x3).toInt = 2 → wm_Wp 0 118 94 [.ref 0, .null, .int x2, .null, .int (x1 - x1 / (10 : Int32) * (10 : Int32)), .int (x1 / (10 : Int32))] μ Q) ∧ (((x3).toInt = 3 → wm_Wp 0 118 110 [.ref 0, .null, .null, .null, .int (x1 - x1 / (10 : Int32) * (10 : Int32)), .int (x1 / (10 : Int32))] μ Q) ∧ True)))))))) : wm_Wp 0 118 21 [.ref 0, .int x1, .int x2, .int x3, .null, .null] μ Q := wm_vc mo_118 (rt := some .int) (by decide +kernel) mc_118 128 h
-- WindBoat.blows(III)I, the place 64
set_option maxRecDepth 100000 in
set_option maxHeartbeats 8000000 in
theorem w_118_64 (x4 : Int32) (x5 : Int32) (μ : wm_M) (Q : Option Value → wm_M → Prop) (h : wm_OkI 0 71 [.ref 2, .int x4, .int x5] μ (fun r2 μ1 => Q (some (.int r2)) μ1)) : wm_Wp 0 118 64 [.ref 0, .null, .null, .null, .int x4, .int x5] μ Q := wm_vc mo_118 (rt := some .int) (by decide +kernel) mc_118 128 h
-- WindBoat.blows(III)I, the place 79
set_option maxRecDepth 100000 in
set_option maxHeartbeats 8000000 in
theorem w_118_79 (x4 : Int32) (x5 : Int32) (μ : wm_M) (Q : Option Value → wm_M → Prop) (h : wm_OkI 0 72 [.ref 2, .int x4, .int x5] μ (fun r2 μ1 => Q (some (.int r2)) μ1)) : wm_Wp 0 118 79 [.ref 0, .null, .null, .null, .int x4, .int x5] μ Q := wm_vc mo_118 (rt := some .int) (by decide +kernel) mc_118 128 h
-- WindBoat.blows(III)I, the place 94
set_option maxRecDepth 100000 in
set_option maxHeartbeats 8000000 in
theorem w_118_94 (x2 : Int32) (x4 : Int32) (x5 : Int32) (μ : wm_M) (Q : Option Value → wm_M → Prop) (h : wm_OkI 0 73 [.ref 2, .int x4, .int x5, .int x2] μ (fun r2 μ1 => Q (some (.int r2)) μ1)) : wm_Wp 0 118 94 [.ref 0, .null, .int x2, .null, .int x4, .int x5] μ Q := wm_vc mo_118 (rt := some .int) (by decide +kernel) mc_118 128 h
-- WindBoat.blows(III)I, the place 110
set_option maxRecDepth 100000 in
set_option maxHeartbeats 8000000 in
theorem w_118_110 (x4 : Int32) (x5 : Int32) (μ : wm_M) (Q : Option Value → wm_M → Prop) (h : wm_OkI 0 69 [.ref 2, .int x4, .int x5] μ (fun r2 μ1 => wm_OkI 0 177 [.int r2] μ1 (fun r4 μ3 => Q (some (.int r4)) μ3))) : wm_Wp 0 118 110 [.ref 0, .null, .null, .null, .int x4, .int x5] μ Q := wm_vc mo_118 (rt := some .int) (by decide +kernel) mc_118 128 h
-- WindBoat.blows(III)I, the place 128
set_option maxRecDepth 100000 in
set_option maxHeartbeats 8000000 in
theorem w_118_128 (μ : wm_M) (Q : Option Value → wm_M → Prop) (h : wm_OkI 0 161 [.ref 0, .int (-7 : Int32)] μ (fun r2 μ1 => Q (some (.int r2)) μ1)) : wm_Wp 0 118 128 [.ref 0, .null, .null, .null, .null, .null] μ Q := wm_vc mo_118 (rt := some .int) (by decide +kernel) mc_118 128 h
-- WindBoat.mark(I)I
set_option maxRecDepth 100000 in
set_option maxHeartbeats 8000000 in
theorem v_119 (a1 : Int32) (μ : wm_M) (Q : Option Value → wm_M → Prop) (h : wm_OkI 0 167 [.int a1] μ (fun r2 μ1 => ((r2 = (0 : Int32) → wm_OkI 0 161 [.ref 0, .int (-3 : Int32)] μ1 (fun r4 μ3 => Q (some (.int r4)) μ3)) ∧ (¬ r2 = (0 : Int32) → wm_Wp 0 119 14 [.ref 0, .int a1, .null, .null] μ1 Q)))) : wm_Ok 0 119 [.ref 0, .int a1] μ Q := wm_ent (nL := 4) (l := [.ref 0, .int a1, .null, .null]) (by decide +kernel) (by decide +kernel) (by decide +kernel) rfl rfl (wm_vc mo_119 (rt := some .int) (by decide +kernel) mc_119 58 h)
-- WindBoat.mark(I)I, the place 14
set_option maxRecDepth 100000 in
set_option maxHeartbeats 8000000 in
theorem w_119_14 (x1 : Int32) (μ : wm_M) (Q : Option Value → wm_M → Prop) (h : wm_OkR 0 163 [.ref 0] μ (fun μ1 => Q (some (.int (μ1.1 2 4))) (wm_si μ1 2 4 x1))) : wm_Wp 0 119 14 [.ref 0, .int x1, .null, .null] μ Q := wm_vc mo_119 (rt := some .int) (by decide +kernel) mc_119 58 h
-- WindBoat.speed(III)I
set_option maxRecDepth 100000 in
set_option maxHeartbeats 8000000 in
theorem v_120 (a1 : Int32) (a2 : Int32) (a3 : Int32) (μ : wm_M) (Q : Option Value → wm_M → Prop) (h : wm_OkI 0 172 [.int a1] μ (fun r2 μ1 => ((r2 = (0 : Int32) → wm_Wp 0 120 14 [.ref 0, .null, .null, .null, .null, .null, .null] μ1 Q) ∧ (¬ r2 = (0 : Int32) → wm_OkI 0 173 [.int a2] μ1 (fun r4 μ3 => ((r4 = (0 : Int32) → wm_Wp 0 120 14 [.ref 0, .null, .null, .null, .null, .null, .null] μ3 Q) ∧ (¬ r4 = (0 : Int32) → wm_Wp 0 120 21 [.ref 0, .int a1, .int a2, .int a3, .null, .null, .null] μ3 Q))))))) : wm_Ok 0 120 [.ref 0, .int a1, .int a2, .int a3] μ Q := wm_ent (nL := 7) (l := [.ref 0, .int a1, .int a2, .int a3, .null, .null, .null]) (by decide +kernel) (by decide +kernel) (by decide +kernel) rfl rfl (wm_vc mo_120 (rt := some .int) (by decide +kernel) mc_120 98 h)
-- WindBoat.speed(III)I, the place 14
set_option maxRecDepth 100000 in
set_option maxHeartbeats 8000000 in
theorem w_120_14 (μ : wm_M) (Q : Option Value → wm_M → Prop) (h : wm_OkI 0 161 [.ref 0, .int (-3 : Int32)] μ (fun r2 μ1 => Q (some (.int r2)) μ1)) : wm_Wp 0 120 14 [.ref 0, .null, .null, .null, .null, .null, .null] μ Q := wm_vc mo_120 (rt := some .int) (by decide +kernel) mc_120 98 h
-- WindBoat.speed(III)I, the place 21
set_option maxRecDepth 100000 in
set_option maxHeartbeats 8000000 in
theorem w_120_21 (x1 : Int32) (x2 : Int32) (x3 : Int32) (μ : wm_M) (Q : Option Value → wm_M → Prop) (h : wm_OkI 0 174 [.int x3] μ (fun r2 μ1 => ((r2 = (0 : Int32) → wm_OkI 0 161 [.ref 0, .int (-7 : Int32)] μ1 (fun r4 μ3 => Q (some (.int r4)) μ3)) ∧ (¬ r2 = (0 : Int32) → wm_Wp 0 120 35 [.ref 0, .int x1, .int x2, .int x3, .null, .null, .null] μ1 Q)))) : wm_Wp 0 120 21 [.ref 0, .int x1, .int x2, .int x3, .null, .null, .null] μ Q := wm_vc mo_120 (rt := some .int) (by decide +kernel) mc_120 98 h
-- WindBoat.speed(III)I, the place 35
set_option maxRecDepth 100000 in
set_option maxHeartbeats 8000000 in
theorem w_120_35 (x1 : Int32) (x2 : Int32) (x3 : Int32) (μ : wm_M) (Q : Option Value → wm_M → Prop) (h : wm_OkR 0 163 [.ref 0] μ (fun μ1 => (vp_in ((x1 * (5 : Int32)) + x2) 25 ∧ (vp_in ((x1 * (5 : Int32)) + x2) 25 ∧ Q (some (.int (μ1.1 8 (((x1 * (5 : Int32)) + x2)).toNatClampNeg))) (wm_si μ1 8 (((x1 * (5 : Int32)) + x2)).toNatClampNeg x3))))) : wm_Wp 0 120 35 [.ref 0, .int x1, .int x2, .int x3, .null, .null, .null] μ Q := wm_vc mo_120 (rt := some .int) (by decide +kernel) mc_120 98 h
-- WindBoat.learn(III)I
set_option maxRecDepth 100000 in
set_option maxHeartbeats 8000000 in
theorem v_121 (a1 : Int32) (a2 : Int32) (a3 : Int32) (μ : wm_M) (Q : Option Value → wm_M → Prop) (h : wm_OkI 0 172 [.int a1] μ (fun r2 μ1 => ((r2 = (0 : Int32) → wm_Wp 0 121 14 [.ref 0, .null, .null, .null, .null] μ1 Q) ∧ (¬ r2 = (0 : Int32) → wm_OkI 0 173 [.int a2] μ1 (fun r4 μ3 => ((r4 = (0 : Int32) → wm_Wp 0 121 14 [.ref 0, .null, .null, .null, .null] μ3 Q) ∧ (¬ r4 = (0 : Int32) → wm_Wp 0 121 21 [.ref 0, .int a1, .int a2, .int a3, .null] μ3 Q))))))) : wm_Ok 0 121 [.ref 0, .int a1, .int a2, .int a3] μ Q := wm_ent (nL := 5) (l := [.ref 0, .int a1, .int a2, .int a3, .null]) (by decide +kernel) (by decide +kernel) (by decide +kernel) rfl rfl (wm_vc mo_121 (rt := some .int) (by decide +kernel) mc_121 104 h)
-- WindBoat.learn(III)I, the place 14
set_option maxRecDepth 100000 in
set_option maxHeartbeats 8000000 in
theorem w_121_14 (μ : wm_M) (Q : Option Value → wm_M → Prop) (h : wm_OkI 0 161 [.ref 0, .int (-3 : Int32)] μ (fun r2 μ1 => Q (some (.int r2)) μ1)) : wm_Wp 0 121 14 [.ref 0, .null, .null, .null, .null] μ Q := wm_vc mo_121 (rt := some .int) (by decide +kernel) mc_121 104 h
-- WindBoat.learn(III)I, the place 21
set_option maxRecDepth 100000 in
set_option maxHeartbeats 8000000 in
theorem w_121_21 (x1 : Int32) (x2 : Int32) (x3 : Int32) (μ : wm_M) (Q : Option Value → wm_M → Prop) (h : wm_OkI 0 174 [.int x3] μ (fun r2 μ1 => ((r2 = (0 : Int32) → wm_OkI 0 161 [.ref 0, .int (-7 : Int32)] μ1 (fun r4 μ3 => Q (some (.int r4)) μ3)) ∧ (¬ r2 = (0 : Int32) → wm_Wp 0 121 35 [.ref 0, .int x1, .int x2, .int x3, .null] μ1 Q)))) : wm_Wp 0 121 21 [.ref 0, .int x1, .int x2, .int x3, .null] μ Q := wm_vc mo_121 (rt := some .int) (by decide +kernel) mc_121 104 h
-- WindBoat.learn(III)I, the place 35
set_option maxRecDepth 100000 in
set_option maxHeartbeats 8000000 in
theorem w_121_35 (x1 : Int32) (x2 : Int32) (x3 : Int32) (μ : wm_M) (Q : Option Value → wm_M → Prop) (h : (vp_in ((x1 * (5 : Int32)) + x2) 25 ∧ (((μ.1 9 (((x1 * (5 : Int32)) + x2)).toNatClampNeg) < (99 : Int32) → wm_Wp 0 121 67 [.ref 0, .null, .null, .int x3, .int ((x1 * (5 : Int32)) + x2)] μ Q) ∧ (¬ (μ.1 9 (((x1 * (5 : Int32)) + x2)).toNatClampNeg) < (99 : Int32) → wm_OkI 0 161 [.ref 0, .int (-8 : Int32)] μ (fun r2 μ1 => Q (some (.int r2)) μ1))))) : wm_Wp 0 121 35 [.ref 0, .int x1, .int x2, .int x3, .null] μ Q := wm_vc mo_121 (rt := some .int) (by decide +kernel) mc_121 104 h
-- WindBoat.learn(III)I, the place 67
set_option maxRecDepth 100000 in
set_option maxHeartbeats 8000000 in
theorem w_121_67 (x3 : Int32) (x4 : Int32) (μ : wm_M) (Q : Option Value → wm_M → Prop) (h : wm_OkR 0 163 [.ref 0] μ (fun μ1 => wm_OkI 0 84 [.ref 7, .int x4, .int x3] μ1 (fun r3 μ2 => Q (some (.int r3)) μ2))) : wm_Wp 0 121 67 [.ref 0, .null, .null, .int x3, .int x4] μ Q := wm_vc mo_121 (rt := some .int) (by decide +kernel) mc_121 104 h
-- WindBoat.table(III)I
set_option maxRecDepth 100000 in
set_option maxHeartbeats 8000000 in
theorem v_122 (a1 : Int32) (a2 : Int32) (a3 : Int32) (μ : wm_M) (Q : Option Value → wm_M → Prop) (h : wm_OkI 0 172 [.int a1] μ (fun r2 μ1 => ((r2 = (0 : Int32) → wm_Wp 0 122 14 [.ref 0, .null, .null, .null, .null, .null] μ1 Q) ∧ (¬ r2 = (0 : Int32) → wm_OkI 0 173 [.int a2] μ1 (fun r4 μ3 => ((r4 = (0 : Int32) → wm_Wp 0 122 14 [.ref 0, .null, .null, .null, .null, .null] μ3 Q) ∧ (¬ r4 = (0 : Int32) → wm_Wp 0 122 21 [.ref 0, .int a1, .int a2, .int a3, .null, .null] μ3 Q))))))) : wm_Ok 0 122 [.ref 0, .int a1, .int a2, .int a3] μ Q := wm_ent (nL := 6) (l := [.ref 0, .int a1, .int a2, .int a3, .null, .null]) (by decide +kernel) (by decide +kernel) (by decide +kernel) rfl rfl (wm_vc mo_122 (rt := some .int) (by decide +kernel) mc_122 122 h)
-- WindBoat.table(III)I, the place 14
set_option maxRecDepth 100000 in
set_option maxHeartbeats 8000000 in
theorem w_122_14 (μ : wm_M) (Q : Option Value → wm_M → Prop) (h : wm_OkI 0 161 [.ref 0, .int (-3 : Int32)] μ (fun r2 μ1 => Q (some (.int r2)) μ1)) : wm_Wp 0 122 14 [.ref 0, .null, .null, .null, .null, .null] μ Q := wm_vc mo_122 (rt := some .int) (by decide +kernel) mc_122 122 h
-- WindBoat.table(III)I, the place 21
set_option maxRecDepth 100000 in
set_option maxHeartbeats 8000000 in
theorem w_122_21 (x1 : Int32) (x2 : Int32) (x3 : Int32) (μ : wm_M) (Q : Option Value → wm_M → Prop) (h : (((x3).toInt < 0 ∨ 4 < (x3).toInt → wm_Wp 0 122 117 [.ref 0, .null, .null, .null, .null, .null] μ Q) ∧ (((x3).toInt = 0 → wm_Wp 0 122 72 [.null, .null, .null, .null, .ref 7, .int ((x1 * (5 : Int32)) + x2)] μ Q) ∧ (((x3).toInt = 1 → wm_Wp 0 122 81 [.null, .null, .null, .null, .ref 7, .int ((x1 * (5 : Int32)) + x2)] μ Q) ∧ (((x3).toInt = 2 → wm_Wp 0 122 90 [.null, .null, .null, .null, .ref 7, .int ((x1 * (5 : Int32)) + x2)] μ Q) ∧ (((x3).toInt = 3 → wm_Wp 0 122 99 [.null, .null, .null, .null, .ref 7, .int ((x1 * (5 : Int32)) + x2)] μ Q) ∧ (((x3).toInt = 4 → wm_Wp 0 122 108 [.null, .null, .null, .null, .ref 7, .int ((x1 * (5 : Int32)) + x2)] μ Q) ∧ True))))))) : wm_Wp 0 122 21 [.ref 0, .int x1, .int x2, .int x3, .null, .null] μ Q := wm_vc mo_122 (rt := some .int) (by decide +kernel) mc_122 122 h
-- WindBoat.table(III)I, the place 72
set_option maxRecDepth 100000 in
set_option maxHeartbeats 8000000 in
theorem w_122_72 (x5 : Int32) (μ : wm_M) (Q : Option Value → wm_M → Prop) (h : (vp_in x5 25 ∧ Q (some (.int (μ.1 8 (x5).toNatClampNeg))) μ)) : wm_Wp 0 122 72 [.null, .null, .null, .null, .ref 7, .int x5] μ Q := wm_vc mo_122 (rt := some .int) (by decide +kernel) mc_122 122 h
-- WindBoat.table(III)I, the place 81
set_option maxRecDepth 100000 in
set_option maxHeartbeats 8000000 in
theorem w_122_81 (x5 : Int32) (μ : wm_M) (Q : Option Value → wm_M → Prop) (h : wm_OkI 0 85 [.ref 7, .int (1 : Int32), .int x5] μ (fun r2 μ1 => Q (some (.int r2)) μ1)) : wm_Wp 0 122 81 [.null, .null, .null, .null, .ref 7, .int x5] μ Q := wm_vc mo_122 (rt := some .int) (by decide +kernel) mc_122 122 h
-- WindBoat.table(III)I, the place 90
set_option maxRecDepth 100000 in
set_option maxHeartbeats 8000000 in
theorem w_122_90 (x5 : Int32) (μ : wm_M) (Q : Option Value → wm_M → Prop) (h : (vp_in x5 25 ∧ Q (some (.int (μ.1 9 (x5).toNatClampNeg))) μ)) : wm_Wp 0 122 90 [.null, .null, .null, .null, .ref 7, .int x5] μ Q := wm_vc mo_122 (rt := some .int) (by decide +kernel) mc_122 122 h
-- WindBoat.table(III)I, the place 99
set_option maxRecDepth 100000 in
set_option maxHeartbeats 8000000 in
theorem w_122_99 (x5 : Int32) (μ : wm_M) (Q : Option Value → wm_M → Prop) (h : (vp_in x5 25 ∧ Q (some (.int (μ.1 11 (x5).toNatClampNeg))) μ)) : wm_Wp 0 122 99 [.null, .null, .null, .null, .ref 7, .int x5] μ Q := wm_vc mo_122 (rt := some .int) (by decide +kernel) mc_122 122 h
-- WindBoat.table(III)I, the place 108
set_option maxRecDepth 100000 in
set_option maxHeartbeats 8000000 in
theorem w_122_108 (x5 : Int32) (μ : wm_M) (Q : Option Value → wm_M → Prop) (h : (vp_in x5 25 ∧ Q (some (.int (μ.1 12 (x5).toNatClampNeg))) μ)) : wm_Wp 0 122 108 [.null, .null, .null, .null, .ref 7, .int x5] μ Q := wm_vc mo_122 (rt := some .int) (by decide +kernel) mc_122 122 h
-- WindBoat.table(III)I, the place 117
set_option maxRecDepth 100000 in
set_option maxHeartbeats 8000000 in
theorem w_122_117 (μ : wm_M) (Q : Option Value → wm_M → Prop) (h : wm_OkI 0 161 [.ref 0, .int (-7 : Int32)] μ (fun r2 μ1 => Q (some (.int r2)) μ1)) : wm_Wp 0 122 117 [.ref 0, .null, .null, .null, .null, .null] μ Q := wm_vc mo_122 (rt := some .int) (by decide +kernel) mc_122 122 h
-- WindBoat.sail(I)I
set_option maxRecDepth 100000 in
set_option maxHeartbeats 8000000 in
theorem v_123 (a1 : Int32) (μ : wm_M) (Q : Option Value → wm_M → Prop) (h : wm_OkI 0 178 [.int a1, .int (0 : Int32), .int (4 : Int32)] μ (fun r2 μ1 => ((r2 = (0 : Int32) → wm_OkI 0 161 [.ref 0, .int (-7 : Int32)] μ1 (fun r4 μ3 => Q (some (.int r4)) μ3)) ∧ (¬ r2 = (0 : Int32) → wm_Wp 0 123 16 [.ref 0, .int a1] μ1 Q)))) : wm_Ok 0 123 [.ref 0, .int a1] μ Q := wm_ent (nL := 2) (l := [.ref 0, .int a1]) (by decide +kernel) (by decide +kernel) (by decide +kernel) rfl rfl (wm_vc mo_123 (rt := some .int) (by decide +kernel) mc_123 70 h)
-- WindBoat.sail(I)I, the place 16
set_option maxRecDepth 100000 in
set_option maxHeartbeats 8000000 in
theorem w_123_16 (x1 : Int32) (μ : wm_M) (Q : Option Value → wm_M → Prop) (h : (((μ.1 13 10) < (3 : Int32) → wm_Wp 0 123 37 [.ref 0, .int x1] μ Q) ∧ (¬ (μ.1 13 10) < (3 : Int32) → wm_OkI 0 161 [.ref 0, .int (-8 : Int32)] μ (fun r2 μ1 => Q (some (.int r2)) μ1)))) : wm_Wp 0 123 16 [.ref 0, .int x1] μ Q := wm_vc mo_123 (rt := some .int) (by decide +kernel) mc_123 70 h
-- WindBoat.sail(I)I, the place 37
set_option maxRecDepth 100000 in
set_option maxHeartbeats 8000000 in
theorem w_123_37 (x1 : Int32) (μ : wm_M) (Q : Option Value → wm_M → Prop) (h : wm_OkR 0 163 [.ref 0] μ (fun μ1 => wm_OkI 0 5 [.ref 13, .int x1] μ1 (fun r3 μ2 => Q (some (.int r3)) μ2))) : wm_Wp 0 123 37 [.ref 0, .int x1] μ Q := wm_vc mo_123 (rt := some .int) (by decide +kernel) mc_123 70 h
-- WindBoat.pace(III)I
set_option maxRecDepth 100000 in
set_option maxHeartbeats 8000000 in
theorem v_124 (a1 : Int32) (a2 : Int32) (a3 : Int32) (μ : wm_M) (Q : Option Value → wm_M → Prop) (h : wm_OkI 0 165 [.ref 0, .int a1] μ (fun r2 μ1 => ((r2 = (0 : Int32) → wm_Wp 0 124 15 [.ref 0, .null, .null, .null] μ1 Q) ∧ (¬ r2 = (0 : Int32) → wm_OkI 0 172 [.int a2] μ1 (fun r4 μ3 => ((r4 = (0 : Int32) → wm_Wp 0 124 15 [.ref 0, .null, .null, .null] μ3 Q) ∧ (¬ r4 = (0 : Int32) → wm_Wp 0 124 22 [.ref 0, .int a1, .int a2, .int a3] μ3 Q))))))) : wm_Ok 0 124 [.ref 0, .int a1, .int a2, .int a3] μ Q := wm_ent (nL := 4) (l := [.ref 0, .int a1, .int a2, .int a3]) (by decide +kernel) (by decide +kernel) (by decide +kernel) rfl rfl (wm_vc mo_124 (rt := some .int) (by decide +kernel) mc_124 76 h)
-- WindBoat.pace(III)I, the place 15
set_option maxRecDepth 100000 in
set_option maxHeartbeats 8000000 in
theorem w_124_15 (μ : wm_M) (Q : Option Value → wm_M → Prop) (h : wm_OkI 0 161 [.ref 0, .int (-3 : Int32)] μ (fun r2 μ1 => Q (some (.int r2)) μ1)) : wm_Wp 0 124 15 [.ref 0, .null, .null, .null] μ Q := wm_vc mo_124 (rt := some .int) (by decide +kernel) mc_124 76 h
-- WindBoat.pace(III)I, the place 22
set_option maxRecDepth 100000 in
set_option maxHeartbeats 8000000 in
theorem w_124_22 (x1 : Int32) (x2 : Int32) (x3 : Int32) (μ : wm_M) (Q : Option Value → wm_M → Prop) (h : wm_OkI 0 174 [.int x3] μ (fun r2 μ1 => ((r2 = (0 : Int32) → wm_OkI 0 161 [.ref 0, .int (-7 : Int32)] μ1 (fun r4 μ3 => Q (some (.int r4)) μ3)) ∧ (¬ r2 = (0 : Int32) → wm_Wp 0 124 36 [.ref 0, .int x1, .int x2, .int x3] μ1 Q)))) : wm_Wp 0 124 22 [.ref 0, .int x1, .int x2, .int x3] μ Q := wm_vc mo_124 (rt := some .int) (by decide +kernel) mc_124 76 h
-- WindBoat.pace(III)I, the place 36
set_option maxRecDepth 100000 in
set_option maxHeartbeats 8000000 in
theorem w_124_36 (x1 : Int32) (x2 : Int32) (x3 : Int32) (μ : wm_M) (Q : Option Value → wm_M → Prop) (h : (vp_in x1 3 ∧ wm_OkI 0 9 [.int (μ.1 14 (x1).toNatClampNeg), .int x2, .int x3] μ (fun r2 μ1 => Q (some (.int r2)) μ1))) : wm_Wp 0 124 36 [.ref 0, .int x1, .int x2, .int x3] μ Q := wm_vc mo_124 (rt := some .int) (by decide +kernel) mc_124 76 h
-- WindBoat.sailOf(II)I
set_option maxRecDepth 100000 in
set_option maxHeartbeats 8000000 in
theorem v_125 (a1 : Int32) (a2 : Int32) (μ : wm_M) (Q : Option Value → wm_M → Prop) (h : wm_OkI 0 165 [.ref 0, .int a1] μ (fun r2 μ1 => ((r2 = (0 : Int32) → wm_OkI 0 161 [.ref 0, .int (-3 : Int32)] μ1 (fun r4 μ3 => Q (some (.int r4)) μ3)) ∧ (¬ r2 = (0 : Int32) → wm_Wp 0 125 15 [.ref 0, .int a1, .int a2] μ1 Q)))) : wm_Ok 0 125 [.ref 0, .int a1, .int a2] μ Q := wm_ent (nL := 3) (l := [.ref 0, .int a1, .int a2]) (by decide +kernel) (by decide +kernel) (by decide +kernel) rfl rfl (wm_vc mo_125 (rt := some .int) (by decide +kernel) mc_125 90 h)
-- WindBoat.sailOf(II)I, the place 15
set_option maxRecDepth 100000 in
set_option maxHeartbeats 8000000 in
theorem w_125_15 (x1 : Int32) (x2 : Int32) (μ : wm_M) (Q : Option Value → wm_M → Prop) (h : (((x2).toInt < 0 ∨ 2 < (x2).toInt → wm_Wp 0 125 85 [.ref 0, .null, .null] μ Q) ∧ (((x2).toInt = 0 → wm_Wp 0 125 44 [.ref 0, .int x1, .null] μ Q) ∧ (((x2).toInt = 1 → wm_Wp 0 125 57 [.ref 0, .int x1, .null] μ Q) ∧ (((x2).toInt = 2 → wm_Wp 0 125 69 [.ref 0, .int x1, .null] μ Q) ∧ True))))) : wm_Wp 0 125 15 [.ref 0, .int x1, .int x2] μ Q := wm_vc mo_125 (rt := some .int) (by decide +kernel) mc_125 90 h
-- WindBoat.sailOf(II)I, the place 44
set_option maxRecDepth 100000 in
set_option maxHeartbeats 8000000 in
theorem w_125_44 (x1 : Int32) (μ : wm_M) (Q : Option Value → wm_M → Prop) (h : (vp_in x1 3 ∧ Q (some (.int (μ.1 14 (x1).toNatClampNeg))) μ)) : wm_Wp 0 125 44 [.ref 0, .int x1, .null] μ Q := wm_vc mo_125 (rt := some .int) (by decide +kernel) mc_125 90 h
-- WindBoat.sailOf(II)I, the place 57
set_option maxRecDepth 100000 in
set_option maxHeartbeats 8000000 in
theorem w_125_57 (x1 : Int32) (μ : wm_M) (Q : Option Value → wm_M → Prop) (h : wm_OkI 0 6 [.ref 13, .int x1] μ (fun r2 μ1 => Q (some (.int r2)) μ1)) : wm_Wp 0 125 57 [.ref 0, .int x1, .null] μ Q := wm_vc mo_125 (rt := some .int) (by decide +kernel) mc_125 90 h
-- WindBoat.sailOf(II)I, the place 69
set_option maxRecDepth 100000 in
set_option maxHeartbeats 8000000 in
theorem w_125_69 (x1 : Int32) (μ : wm_M) (Q : Option Value → wm_M → Prop) (h : (vp_in x1 3 ∧ wm_OkI 0 177 [.int (μ.1 15 (x1).toNatClampNeg)] μ (fun r2 μ1 => Q (some (.int r2)) μ1))) : wm_Wp 0 125 69 [.ref 0, .int x1, .null] μ Q := wm_vc mo_125 (rt := some .int) (by decide +kernel) mc_125 90 h
-- WindBoat.sailOf(II)I, the place 85
set_option maxRecDepth 100000 in
set_option maxHeartbeats 8000000 in
theorem w_125_85 (μ : wm_M) (Q : Option Value → wm_M → Prop) (h : wm_OkI 0 161 [.ref 0, .int (-7 : Int32)] μ (fun r2 μ1 => Q (some (.int r2)) μ1)) : wm_Wp 0 125 85 [.ref 0, .null, .null] μ Q := wm_vc mo_125 (rt := some .int) (by decide +kernel) mc_125 90 h
-- WindBoat.taken(II)I
set_option maxRecDepth 100000 in
set_option maxHeartbeats 8000000 in
theorem v_126 (a1 : Int32) (a2 : Int32) (μ : wm_M) (Q : Option Value → wm_M → Prop) (h : wm_OkI 0 165 [.ref 0, .int a1] μ (fun r2 μ1 => ((r2 = (0 : Int32) → wm_OkI 0 161 [.ref 0, .int (-3 : Int32)] μ1 (fun r4 μ3 => Q (some (.int r4)) μ3)) ∧ (¬ r2 = (0 : Int32) → wm_Wp 0 126 15 [.ref 0, .int a1, .int a2] μ1 Q)))) : wm_Ok 0 126 [.ref 0, .int a1, .int a2] μ Q := wm_ent (nL := 3) (l := [.ref 0, .int a1, .int a2]) (by decide +kernel) (by decide +kernel) (by decide +kernel) rfl rfl (wm_vc mo_126 (rt := some .int) (by decide +kernel) mc_126 92 h)
-- WindBoat.taken(II)I, the place 15
set_option maxRecDepth 100000 in
set_option maxHeartbeats 8000000 in
theorem w_126_15 (x1 : Int32) (x2 : Int32) (μ : wm_M) (Q : Option Value → wm_M → Prop) (h : wm_OkI 0 178 [.int x2, .int (0 : Int32), .int (4 : Int32)] μ (fun r2 μ1 => ((r2 = (0 : Int32) → wm_OkI 0 161 [.ref 0, .int (-7 : Int32)] μ1 (fun r4 μ3 => Q (some (.int r4)) μ3)) ∧ (¬ r2 = (0 : Int32) → wm_Wp 0 126 31 [.ref 0, .int x1, .int x2] μ1 Q)))) : wm_Wp 0 126 15 [.ref 0, .int x1, .int x2] μ Q := wm_vc mo_126 (rt := some .int) (by decide +kernel) mc_126 92 h
-- WindBoat.taken(II)I, the place 31
set_option maxRecDepth 100000 in
set_option maxHeartbeats 8000000 in
theorem w_126_31 (x1 : Int32) (x2 : Int32) (μ : wm_M) (Q : Option Value → wm_M → Prop) (h : (vp_in x1 3 ∧ wm_OkI 0 8 [.int (μ.1 14 (x1).toNatClampNeg), .int x2] μ (fun r2 μ1 => ((r2 = (0 : Int32) → wm_OkI 0 161 [.ref 0, .int (-5 : Int32)] μ1 (fun r4 μ3 => Q (some (.int r4)) μ3)) ∧ (¬ r2 = (0 : Int32) → wm_Wp 0 126 57 [.ref 0, .int x1, .null] μ1 Q))))) : wm_Wp 0 126 31 [.ref 0, .int x1, .int x2] μ Q := wm_vc mo_126 (rt := some .int) (by decide +kernel) mc_126 92 h
-- WindBoat.taken(II)I, the place 57
set_option maxRecDepth 100000 in
set_option maxHeartbeats 8000000 in
theorem w_126_57 (x1 : Int32) (μ : wm_M) (Q : Option Value → wm_M → Prop) (h : wm_OkI 0 6 [.ref 13, .int x1] μ (fun r2 μ1 => Q (some (.int r2)) μ1)) : wm_Wp 0 126 57 [.ref 0, .int x1, .null] μ Q := wm_vc mo_126 (rt := some .int) (by decide +kernel) mc_126 92 h
-- WindBoat.hand()I
set_option maxRecDepth 100000 in
set_option maxHeartbeats 8000000 in
theorem v_127 (μ : wm_M) (Q : Option Value → wm_M → Prop) (h : (((μ.1 13 13) < (8 : Int32) → wm_Wp 0 127 22 [.ref 0] μ Q) ∧ (¬ (μ.1 13 13) < (8 : Int32) → wm_OkI 0 161 [.ref 0, .int (-8 : Int32)] μ (fun r2 μ1 => Q (some (.int r2)) μ1)))) : wm_Ok 0 127 [.ref 0] μ Q := wm_ent (nL := 1) (l := [.ref 0]) (by decide +kernel) (by decide +kernel) (by decide +kernel) rfl rfl (wm_vc mo_127 (rt := some .int) (by decide +kernel) mc_127 50 h)
-- WindBoat.hand()I, the place 22
set_option maxRecDepth 100000 in
set_option maxHeartbeats 8000000 in
theorem w_127_22 (μ : wm_M) (Q : Option Value → wm_M → Prop) (h : wm_OkR 0 163 [.ref 0] μ (fun μ1 => wm_OkI 0 10 [.ref 13] μ1 (fun r3 μ2 => Q (some (.int r3)) μ2))) : wm_Wp 0 127 22 [.ref 0] μ Q := wm_vc mo_127 (rt := some .int) (by decide +kernel) mc_127 50 h
-- WindBoat.sleep(II)I
set_option maxRecDepth 100000 in
set_option maxHeartbeats 8000000 in
theorem v_128 (a1 : Int32) (a2 : Int32) (μ : wm_M) (Q : Option Value → wm_M → Prop) (h : wm_OkI 0 178 [.int a1, .int (0 : Int32), .int ((μ.1 13 13) - (1 : Int32))] μ (fun r2 μ1 => ((r2 = (0 : Int32) → wm_OkI 0 161 [.ref 0, .int (-3 : Int32)] μ1 (fun r4 μ3 => Q (some (.int r4)) μ3)) ∧ (¬ r2 = (0 : Int32) → wm_Wp 0 128 27 [.ref 0, .int a1, .int a2, .null] μ1 Q)))) : wm_Ok 0 128 [.ref 0, .int a1, .int a2] μ Q := wm_ent (nL := 4) (l := [.ref 0, .int a1, .int a2, .null]) (by decide +kernel) (by decide +kernel) (by decide +kernel) rfl rfl (wm_vc mo_128 (rt := some .int) (by decide +kernel) mc_128 98 h)
-- WindBoat.sleep(II)I, the place 27
set_option maxRecDepth 100000 in
set_option maxHeartbeats 8000000 in
theorem w_128_27 (x1 : Int32) (x2 : Int32) (μ : wm_M) (Q : Option Value → wm_M → Prop) (h : wm_OkI 0 176 [.int x2] μ (fun r2 μ1 => ((r2 = (0 : Int32) → wm_OkI 0 161 [.ref 0, .int (-7 : Int32)] μ1 (fun r4 μ3 => Q (some (.int r4)) μ3)) ∧ (¬ r2 = (0 : Int32) → wm_Wp 0 128 41 [.ref 0, .int x1, .int x2, .null] μ1 Q)))) : wm_Wp 0 128 27 [.ref 0, .int x1, .int x2, .null] μ Q := wm_vc mo_128 (rt := some .int) (by decide +kernel) mc_128 98 h
-- WindBoat.sleep(II)I, the place 41
set_option maxRecDepth 100000 in
set_option maxHeartbeats 8000000 in
theorem w_128_41 (x1 : Int32) (x2 : Int32) (μ : wm_M) (Q : Option Value → wm_M → Prop) (h : wm_OkR 0 163 [.ref 0] μ (fun μ1 => ((x2 = (1 : Int32) → wm_OkV 0 11 [.ref 13, .int x1, .int (1 : Int32)] μ1 (fun μ2 => (vp_in x1 8 ∧ Q (some (.int (μ2.1 16 (x1).toNatClampNeg))) μ2))) ∧ (¬ x2 = (1 : Int32) → wm_OkV 0 11 [.ref 13, .int x1, .int (0 : Int32)] μ1 (fun μ3 => (vp_in x1 8 ∧ Q (some (.int (μ3.1 16 (x1).toNatClampNeg))) μ3)))))) : wm_Wp 0 128 41 [.ref 0, .int x1, .int x2, .null] μ Q := wm_vc mo_128 (rt := some .int) (by decide +kernel) mc_128 98 h
-- WindBoat.feed(II)I
set_option maxRecDepth 100000 in
set_option maxHeartbeats 8000000 in
theorem v_129 (a1 : Int32) (a2 : Int32) (μ : wm_M) (Q : Option Value → wm_M → Prop) (h : (((0 : Int32) ≤ a2 → wm_Wp 0 129 11 [.ref 0, .int a1, .int a2, .null] μ Q) ∧ (¬ (0 : Int32) ≤ a2 → wm_OkI 0 161 [.ref 0, .int (-4 : Int32)] μ (fun r2 μ1 => Q (some (.int r2)) μ1)))) : wm_Ok 0 129 [.ref 0, .int a1, .int a2] μ Q := wm_ent (nL := 4) (l := [.ref 0, .int a1, .int a2, .null]) (by decide +kernel) (by decide +kernel) (by decide +kernel) rfl rfl (wm_vc mo_129 (rt := some .int) (by decide +kernel) mc_129 112 h)
-- WindBoat.feed(II)I, the place 11
set_option maxRecDepth 100000 in
set_option maxHeartbeats 8000000 in
theorem w_129_11 (x1 : Int32) (x2 : Int32) (μ : wm_M) (Q : Option Value → wm_M → Prop) (h : ((x2 ≤ (4 : Int32) → wm_Wp 0 129 23 [.ref 0, .int x1, .int x2, .null] μ Q) ∧ (¬ x2 ≤ (4 : Int32) → wm_OkI 0 161 [.ref 0, .int (-7 : Int32)] μ (fun r2 μ1 => Q (some (.int r2)) μ1)))) : wm_Wp 0 129 11 [.ref 0, .int x1, .int x2, .null] μ Q := wm_vc mo_129 (rt := some .int) (by decide +kernel) mc_129 112 h
-- WindBoat.feed(II)I, the place 23
set_option maxRecDepth 100000 in
set_option maxHeartbeats 8000000 in
theorem w_129_23 (x1 : Int32) (x2 : Int32) (μ : wm_M) (Q : Option Value → wm_M → Prop) (h : ((((μ.1 59 1) + x2) ≤ (120 : Int32) → wm_Wp 0 129 44 [.ref 0, .int x1, .int x2, .null] μ Q) ∧ (¬ ((μ.1 59 1) + x2) ≤ (120 : Int32) → wm_OkI 0 161 [.ref 0, .int (-8 : Int32)] μ (fun r2 μ1 => Q (some (.int r2)) μ1)))) : wm_Wp 0 129 23 [.ref 0, .int x1, .int x2, .null] μ Q := wm_vc mo_129 (rt := some .int) (by decide +kernel) mc_129 112 h
-- WindBoat.feed(II)I, the place 44
set_option maxRecDepth 100000 in
set_option maxHeartbeats 8000000 in
theorem w_129_44 (x1 : Int32) (x2 : Int32) (μ : wm_M) (Q : Option Value → wm_M → Prop) (h : wm_Wp 0 129 48 [.ref 0, .int x1, .null, .int (x2 - (1 : Int32))] μ Q) : wm_Wp 0 129 44 [.ref 0, .int x1, .int x2, .null] μ Q := wm_vc mo_129 (rt := some .int) (by decide +kernel) mc_129 112 h
-- WindBoat.feed(II)I, the place 48
set_option maxRecDepth 100000 in
set_option maxHeartbeats 8000000 in
theorem w_129_48 (x1 : Int32) (x3 : Int32) (μ : wm_M) (Q : Option Value → wm_M → Prop) (h : ((x3 < (0 : Int32) → wm_Wp 0 129 75 [.ref 0, .null, .null, .null] μ Q) ∧ (¬ x3 < (0 : Int32) → wm_OkV 0 88 [.ref 59, .int (((x1).toUInt32 >>> ((((8 : Int32) * x3)).toUInt32 &&& Int32.toUInt32 31)).toInt32 &&& (255 : Int32))] μ (fun μ1 => wm_Wp 0 129 48 [.ref 0, .int x1, .null, .int (x3 + (-1 : Int32))] μ1 Q)))) : wm_Wp 0 129 48 [.ref 0, .int x1, .null, .int x3] μ Q := wm_vc mo_129 (rt := some .int) (by decide +kernel) mc_129 112 h
-- WindBoat.feed(II)I, the place 75
set_option maxRecDepth 100000 in
set_option maxHeartbeats 8000000 in
theorem w_129_75 (μ : wm_M) (Q : Option Value → wm_M → Prop) (h : Q (some (.int (μ.1 59 1))) μ) : wm_Wp 0 129 75 [.ref 0, .null, .null, .null] μ Q := wm_vc mo_129 (rt := some .int) (by decide +kernel) mc_129 112 h
-- WindBoat.wipe()I
set_option maxRecDepth 100000 in
set_option maxHeartbeats 8000000 in
theorem v_130 (μ : wm_M) (Q : Option Value → wm_M → Prop) (h : Q (some (.int (μ.1 59 1))) (wm_si μ 59 1 (0 : Int32))) : wm_Ok 0 130 [.ref 0] μ Q := wm_ent (nL := 2) (l := [.ref 0, .null]) (by decide +kernel) (by decide +kernel) (by decide +kernel) rfl rfl (wm_vc mo_130 (rt := some .int) (by decide +kernel) mc_130 40 h)
-- WindBoat.rule(II)I
set_option maxRecDepth 100000 in
set_option maxHeartbeats 8000000 in
theorem v_131 (a1 : Int32) (a2 : Int32) (μ : wm_M) (Q : Option Value → wm_M → Prop) (h : ((a1 < (0 : Int32) → wm_Wp 0 131 15 [.ref 0, .null, .null, .null, .null] μ Q) ∧ (¬ a1 < (0 : Int32) → (((12 : Int32) < a2 → wm_Wp 0 131 15 [.ref 0, .null, .null, .null, .null] μ Q) ∧ (¬ (12 : Int32) < a2 → ((a1 < a2 → wm_Wp 0 131 22 [.ref 0, .int a1, .int a2, .null, .null] μ Q) ∧ (¬ a1 < a2 → wm_Wp 0 131 15 [.ref 0, .null, .null, .null, .null] μ Q))))))) : wm_Ok 0 131 [.ref 0, .int a1, .int a2] μ Q := wm_ent (nL := 5) (l := [.ref 0, .int a1, .int a2, .null, .null]) (by decide +kernel) (by decide +kernel) (by decide +kernel) rfl rfl (wm_vc mo_131 (rt := some .int) (by decide +kernel) mc_131 116 h)
-- WindBoat.rule(II)I, the place 15
set_option maxRecDepth 100000 in
set_option maxHeartbeats 8000000 in
theorem w_131_15 (μ : wm_M) (Q : Option Value → wm_M → Prop) (h : wm_OkI 0 161 [.ref 0, .int (-7 : Int32)] μ (fun r2 μ1 => Q (some (.int r2)) μ1)) : wm_Wp 0 131 15 [.ref 0, .null, .null, .null, .null] μ Q := wm_vc mo_131 (rt := some .int) (by decide +kernel) mc_131 116 h
-- WindBoat.rule(II)I, the place 22
set_option maxRecDepth 100000 in
set_option maxHeartbeats 8000000 in
theorem w_131_22 (x1 : Int32) (x2 : Int32) (μ : wm_M) (Q : Option Value → wm_M → Prop) (h : (((μ.1 18 6) < (12 : Int32) → wm_Wp 0 131 44 [.ref 0, .int x1, .int x2, .null, .null] μ Q) ∧ (¬ (μ.1 18 6) < (12 : Int32) → wm_OkI 0 161 [.ref 0, .int (-8 : Int32)] μ (fun r2 μ1 => Q (some (.int r2)) μ1)))) : wm_Wp 0 131 22 [.ref 0, .int x1, .int x2, .null, .null] μ Q := wm_vc mo_131 (rt := some .int) (by decide +kernel) mc_131 116 h
-- WindBoat.rule(II)I, the place 44
set_option maxRecDepth 100000 in
set_option maxHeartbeats 8000000 in
theorem w_131_44 (x1 : Int32) (x2 : Int32) (μ : wm_M) (Q : Option Value → wm_M → Prop) (h : wm_OkI 0 89 [.ref 59] μ (fun r2 μ1 => ((r2 = (-1 : Int32) → wm_Wp 0 131 62 [.ref 0, .int x1, .int x2, .null, .null] μ1 Q) ∧ (¬ r2 = (-1 : Int32) → Q (some (.int ((-10 : Int32) - r2))) μ1)))) : wm_Wp 0 131 44 [.ref 0, .int x1, .int x2, .null, .null] μ Q := wm_vc mo_131 (rt := some .int) (by decide +kernel) mc_131 116 h
-- WindBoat.rule(II)I, the place 62
set_option maxRecDepth 100000 in
set_option maxHeartbeats 8000000 in
theorem w_131_62 (x1 : Int32) (x2 : Int32) (μ : wm_M) (Q : Option Value → wm_M → Prop) (h : wm_OkR 0 163 [.ref 0] μ (fun μ1 => wm_OkI 0 61 [.ref 18, .ref 59, .int x1, .int x2] μ1 (fun r3 μ2 => Q (some (.int r3)) (wm_si μ2 59 1 (0 : Int32))))) : wm_Wp 0 131 62 [.ref 0, .int x1, .int x2, .null, .null] μ Q := wm_vc mo_131 (rt := some .int) (by decide +kernel) mc_131 116 h
-- WindBoat.says(III)I
set_option maxRecDepth 100000 in
set_option maxHeartbeats 8000000 in
theorem v_132 (a1 : Int32) (a2 : Int32) (a3 : Int32) (μ : wm_M) (Q : Option Value → wm_M → Prop) (h : wm_OkI 0 166 [.ref 0, .int a1, .int a2, .int a3] μ (fun r2 μ1 => ((r2 = (0 : Int32) → wm_OkI 0 162 [.ref 0, .int (-3 : Int32)] μ1 (fun r4 μ3 => Q (some (.int r4)) μ3)) ∧ (¬ r2 = (0 : Int32) → wm_Wp 0 132 17 [.ref 0, .int a1, .int a2, .int a3] μ1 Q)))) : wm_Ok 0 132 [.ref 0, .int a1, .int a2, .int a3] μ Q := wm_ent (nL := 4) (l := [.ref 0, .int a1, .int a2, .int a3]) (by decide +kernel) (by decide +kernel) (by decide +kernel) rfl rfl (wm_vc mo_132 (rt := some .int) (by decide +kernel) mc_132 82 h)
-- WindBoat.says(III)I, the place 17
set_option maxRecDepth 100000 in
set_option maxHeartbeats 8000000 in
theorem w_132_17 (x1 : Int32) (x2 : Int32) (x3 : Int32) (μ : wm_M) (Q : Option Value → wm_M → Prop) (h : (¬ (10 : Int32) = 0 ∧ (vp_in (x1 - x1 / (10 : Int32) * (10 : Int32)) 3 ∧ wm_OkV 0 47 [.ref 1, .int x2, .int (μ.1 14 ((x1 - x1 / (10 : Int32) * (10 : Int32))).toNatClampNeg), .int x3] μ (fun μ1 => (¬ (10 : Int32) = 0 ∧ wm_OkI 0 64 [.ref 18, .int (x1 / (10 : Int32))] μ1 (fun r3 μ2 => Q (some (.int r3)) μ2)))))) : wm_Wp 0 132 17 [.ref 0, .int x1, .int x2, .int x3] μ Q := wm_vc mo_132 (rt := some .int) (by decide +kernel) mc_132 82 h
-- WindBoat.why(III)I
set_option maxRecDepth 100000 in
set_option maxHeartbeats 8000000 in
theorem v_133 (a1 : Int32) (a2 : Int32) (a3 : Int32) (μ : wm_M) (Q : Option Value → wm_M → Prop) (h : wm_OkI 0 166 [.ref 0, .int a1, .int a2, .int a3] μ (fun r2 μ1 => ((r2 = (0 : Int32) → wm_OkI 0 161 [.ref 0, .int (-3 : Int32)] μ1 (fun r4 μ3 => Q (some (.int r4)) μ3)) ∧ (¬ r2 = (0 : Int32) → wm_Wp 0 133 17 [.ref 0, .int a1, .int a2, .int a3] μ1 Q)))) : wm_Ok 0 133 [.ref 0, .int a1, .int a2, .int a3] μ Q := wm_ent (nL := 4) (l := [.ref 0, .int a1, .int a2, .int a3]) (by decide +kernel) (by decide +kernel) (by decide +kernel) rfl rfl (wm_vc mo_133 (rt := some .int) (by decide +kernel) mc_133 82 h)
-- WindBoat.why(III)I, the place 17
set_option maxRecDepth 100000 in
set_option maxHeartbeats 8000000 in
theorem w_133_17 (x1 : Int32) (x2 : Int32) (x3 : Int32) (μ : wm_M) (Q : Option Value → wm_M → Prop) (h : (¬ (10 : Int32) = 0 ∧ (vp_in (x1 - x1 / (10 : Int32) * (10 : Int32)) 3 ∧ wm_OkV 0 47 [.ref 1, .int x2, .int (μ.1 14 ((x1 - x1 / (10 : Int32) * (10 : Int32))).toNatClampNeg), .int x3] μ (fun μ1 => (¬ (10 : Int32) = 0 ∧ wm_OkI 0 63 [.ref 18, .int (x1 / (10 : Int32))] μ1 (fun r3 μ2 => Q (some (.int r3)) μ2)))))) : wm_Wp 0 133 17 [.ref 0, .int x1, .int x2, .int x3] μ Q := wm_vc mo_133 (rt := some .int) (by decide +kernel) mc_133 82 h
-- WindBoat.soonest(III)I
set_option maxRecDepth 100000 in
set_option maxHeartbeats 8000000 in
theorem v_134 (a1 : Int32) (a2 : Int32) (a3 : Int32) (μ : wm_M) (Q : Option Value → wm_M → Prop) (h : (((μ.1 13 0) = (0 : Int32) → wm_OkI 0 161 [.ref 0, .int (-2 : Int32)] μ (fun r2 μ1 => Q (some (.int r2)) μ1)) ∧ (¬ (μ.1 13 0) = (0 : Int32) → wm_Wp 0 134 20 [.ref 0, .int a1, .int a2, .int a3, .null] μ Q))) : wm_Ok 0 134 [.ref 0, .int a1, .int a2, .int a3] μ Q := wm_ent (nL := 5) (l := [.ref 0, .int a1, .int a2, .int a3, .null]) (by decide +kernel) (by decide +kernel) (by decide +kernel) rfl rfl (wm_vc mo_134 (rt := some .int) (by decide +kernel) mc_134 142 h)
-- WindBoat.soonest(III)I, the place 20
set_option maxRecDepth 100000 in
set_option maxHeartbeats 8000000 in
theorem w_134_20 (x1 : Int32) (x2 : Int32) (x3 : Int32) (μ : wm_M) (Q : Option Value → wm_M → Prop) (h : wm_OkI 0 169 [.int x1] μ (fun r2 μ1 => ((r2 = (0 : Int32) → wm_Wp 0 134 34 [.ref 0, .null, .null, .null, .null] μ1 Q) ∧ (¬ r2 = (0 : Int32) → wm_OkI 0 167 [.int x2] μ1 (fun r4 μ3 => ((r4 = (0 : Int32) → wm_Wp 0 134 34 [.ref 0, .null, .null, .null, .null] μ3 Q) ∧ (¬ r4 = (0 : Int32) → wm_Wp 0 134 41 [.ref 0, .int x1, .int x2, .int x3, .null] μ3 Q))))))) : wm_Wp 0 134 20 [.ref 0, .int x1, .int x2, .int x3, .null] μ Q := wm_vc mo_134 (rt := some .int) (by decide +kernel) mc_134 142 h
-- WindBoat.soonest(III)I, the place 34
set_option maxRecDepth 100000 in
set_option maxHeartbeats 8000000 in
theorem w_134_34 (μ : wm_M) (Q : Option Value → wm_M → Prop) (h : wm_OkI 0 161 [.ref 0, .int (-3 : Int32)] μ (fun r2 μ1 => Q (some (.int r2)) μ1)) : wm_Wp 0 134 34 [.ref 0, .null, .null, .null, .null] μ Q := wm_vc mo_134 (rt := some .int) (by decide +kernel) mc_134 142 h
-- WindBoat.soonest(III)I, the place 41
set_option maxRecDepth 100000 in
set_option maxHeartbeats 8000000 in
theorem w_134_41 (x1 : Int32) (x2 : Int32) (x3 : Int32) (μ : wm_M) (Q : Option Value → wm_M → Prop) (h : wm_OkI 0 176 [.int x3] μ (fun r2 μ1 => ((r2 = (0 : Int32) → wm_OkI 0 161 [.ref 0, .int (-7 : Int32)] μ1 (fun r4 μ3 => Q (some (.int r4)) μ3)) ∧ (¬ r2 = (0 : Int32) → wm_Wp 0 134 55 [.ref 0, .int x1, .int x2, .int x3, .null] μ1 Q)))) : wm_Wp 0 134 41 [.ref 0, .int x1, .int x2, .int x3, .null] μ Q := wm_vc mo_134 (rt := some .int) (by decide +kernel) mc_134 142 h
-- WindBoat.soonest(III)I, the place 55
set_option maxRecDepth 100000 in
set_option maxHeartbeats 8000000 in
theorem w_134_55 (x1 : Int32) (x2 : Int32) (x3 : Int32) (μ : wm_M) (Q : Option Value → wm_M → Prop) (h : wm_OkV 0 17 [.ref 62] μ (fun μ1 => wm_OkV 0 19 [.ref 62, .int x1, .int x3] μ1 (fun μ2 => wm_OkI 0 2 [.ref 13] μ2 (fun r4 μ3 => wm_OkI 0 49 [.ref 1] μ3 (fun r6 μ5 => wm_OkI 0 107 [.ref 69, .int r4, .int (μ3.1 13 4), .int r6, .int x2] μ5 (fun r8 μ7 => ((r8 = (-1 : Int32) → Q (some (.int (-1 : Int32))) μ7) ∧ (¬ r8 = (-1 : Int32) → wm_Wp 0 134 118 [.ref 0, .null, .null, .null, .int r8] μ7 Q)))))))) : wm_Wp 0 134 55 [.ref 0, .int x1, .int x2, .int x3, .null] μ Q := wm_vc mo_134 (rt := some .int) (by decide +kernel) mc_134 142 h
-- WindBoat.soonest(III)I, the place 118
set_option maxRecDepth 100000 in
set_option maxHeartbeats 8000000 in
theorem w_134_118 (x4 : Int32) (μ : wm_M) (Q : Option Value → wm_M → Prop) (h : (vp_in x4 864 ∧ Q (some (.int (μ.1 70 (x4).toNatClampNeg))) μ)) : wm_Wp 0 134 118 [.ref 0, .null, .null, .null, .int x4] μ Q := wm_vc mo_134 (rt := some .int) (by decide +kernel) mc_134 142 h
-- WindBoat.plan(III)I
set_option maxRecDepth 100000 in
set_option maxHeartbeats 8000000 in
theorem v_135 (a1 : Int32) (a2 : Int32) (a3 : Int32) (μ : wm_M) (Q : Option Value → wm_M → Prop) (h : (((μ.1 13 0) = (0 : Int32) → wm_OkI 0 161 [.ref 0, .int (-2 : Int32)] μ (fun r2 μ1 => Q (some (.int r2)) μ1)) ∧ (¬ (μ.1 13 0) = (0 : Int32) → wm_Wp 0 135 20 [.ref 0, .int a1, .int a2, .int a3, .null] μ Q))) : wm_Ok 0 135 [.ref 0, .int a1, .int a2, .int a3] μ Q := wm_ent (nL := 5) (l := [.ref 0, .int a1, .int a2, .int a3, .null]) (by decide +kernel) (by decide +kernel) (by decide +kernel) rfl rfl (wm_vc mo_135 (rt := some .int) (by decide +kernel) mc_135 152 h)
-- WindBoat.plan(III)I, the place 20
set_option maxRecDepth 100000 in
set_option maxHeartbeats 8000000 in
theorem w_135_20 (x1 : Int32) (x2 : Int32) (x3 : Int32) (μ : wm_M) (Q : Option Value → wm_M → Prop) (h : wm_OkI 0 169 [.int x1] μ (fun r2 μ1 => ((r2 = (0 : Int32) → wm_Wp 0 135 34 [.ref 0, .null, .null, .null, .null] μ1 Q) ∧ (¬ r2 = (0 : Int32) → wm_OkI 0 167 [.int x2] μ1 (fun r4 μ3 => ((r4 = (0 : Int32) → wm_Wp 0 135 34 [.ref 0, .null, .null, .null, .null] μ3 Q) ∧ (¬ r4 = (0 : Int32) → wm_Wp 0 135 41 [.ref 0, .int x1, .int x2, .int x3, .null] μ3 Q))))))) : wm_Wp 0 135 20 [.ref 0, .int x1, .int x2, .int x3, .null] μ Q := wm_vc mo_135 (rt := some .int) (by decide +kernel) mc_135 152 h
-- WindBoat.plan(III)I, the place 34
set_option maxRecDepth 100000 in
set_option maxHeartbeats 8000000 in
theorem w_135_34 (μ : wm_M) (Q : Option Value → wm_M → Prop) (h : wm_OkI 0 161 [.ref 0, .int (-3 : Int32)] μ (fun r2 μ1 => Q (some (.int r2)) μ1)) : wm_Wp 0 135 34 [.ref 0, .null, .null, .null, .null] μ Q := wm_vc mo_135 (rt := some .int) (by decide +kernel) mc_135 152 h
-- WindBoat.plan(III)I, the place 41
set_option maxRecDepth 100000 in
set_option maxHeartbeats 8000000 in
theorem w_135_41 (x1 : Int32) (x2 : Int32) (x3 : Int32) (μ : wm_M) (Q : Option Value → wm_M → Prop) (h : (((-1 : Int32) ≤ x3 → wm_Wp 0 135 53 [.ref 0, .int x1, .int x2, .int x3, .null] μ Q) ∧ (¬ (-1 : Int32) ≤ x3 → wm_OkI 0 161 [.ref 0, .int (-7 : Int32)] μ (fun r2 μ1 => Q (some (.int r2)) μ1)))) : wm_Wp 0 135 41 [.ref 0, .int x1, .int x2, .int x3, .null] μ Q := wm_vc mo_135 (rt := some .int) (by decide +kernel) mc_135 152 h
-- WindBoat.plan(III)I, the place 53
set_option maxRecDepth 100000 in
set_option maxHeartbeats 8000000 in
theorem w_135_53 (x1 : Int32) (x2 : Int32) (x3 : Int32) (μ : wm_M) (Q : Option Value → wm_M → Prop) (h : wm_OkV 0 17 [.ref 62] μ (fun μ1 => wm_OkV 0 19 [.ref 62, .int x1, .int (1 : Int32)] μ1 (fun μ2 => wm_OkI 0 2 [.ref 13] μ2 (fun r4 μ3 => wm_OkI 0 49 [.ref 1] μ3 (fun r6 μ5 => wm_OkI 0 112 [.ref 69, .int r4, .int (μ3.1 13 4), .int r6, .int x2] μ5 (fun r8 μ7 => ((x3 = (-1 : Int32) → Q (some (.int r8)) μ7) ∧ (¬ x3 = (-1 : Int32) → wm_Wp 0 135 114 [.ref 0, .null, .null, .int x3, .int r8] μ7 Q)))))))) : wm_Wp 0 135 53 [.ref 0, .int x1, .int x2, .int x3, .null] μ Q := wm_vc mo_135 (rt := some .int) (by decide +kernel) mc_135 152 h
-- WindBoat.plan(III)I, the place 114
set_option maxRecDepth 100000 in
set_option maxHeartbeats 8000000 in
theorem w_135_114 (x3 : Int32) (x4 : Int32) (μ : wm_M) (Q : Option Value → wm_M → Prop) (h : ((x4 ≤ x3 → wm_Wp 0 135 132 [.null, .null, .null, .null, .null] μ Q) ∧ (¬ x4 ≤ x3 → (vp_in x3 121 ∧ Q (some (.int (μ.1 74 (x3).toNatClampNeg))) μ)))) : wm_Wp 0 135 114 [.ref 0, .null, .null, .int x3, .int x4] μ Q := wm_vc mo_135 (rt := some .int) (by decide +kernel) mc_135 152 h
-- WindBoat.plan(III)I, the place 132
set_option maxRecDepth 100000 in
set_option maxHeartbeats 8000000 in
theorem w_135_132 (μ : wm_M) (Q : Option Value → wm_M → Prop) (h : Q (some (.int (-1 : Int32))) μ) : wm_Wp 0 135 132 [.null, .null, .null, .null, .null] μ Q := wm_vc mo_135 (rt := some .int) (by decide +kernel) mc_135 152 h
-- WindBoat.telling(II)I
set_option maxRecDepth 100000 in
set_option maxHeartbeats 8000000 in
theorem v_136 (a1 : Int32) (a2 : Int32) (μ : wm_M) (Q : Option Value → wm_M → Prop) (h : wm_OkI 0 175 [.int a1] μ (fun r2 μ1 => ((r2 = (0 : Int32) → wm_Wp 0 136 19 [.ref 0, .null, .null, .null, .null] μ1 Q) ∧ (¬ r2 = (0 : Int32) → wm_OkI 0 175 [.int a2] μ1 (fun r4 μ3 => ((r4 = (0 : Int32) → wm_Wp 0 136 19 [.ref 0, .null, .null, .null, .null] μ3 Q) ∧ (¬ r4 = (0 : Int32) → ((a1 ≤ a2 → wm_Wp 0 136 26 [.ref 0, .int a1, .int a2, .null, .null] μ3 Q) ∧ (¬ a1 ≤ a2 → wm_Wp 0 136 19 [.ref 0, .null, .null, .null, .null] μ3 Q))))))))) : wm_Ok 0 136 [.ref 0, .int a1, .int a2] μ Q := wm_ent (nL := 5) (l := [.ref 0, .int a1, .int a2, .null, .null]) (by decide +kernel) (by decide +kernel) (by decide +kernel) rfl rfl (wm_vc mo_136 (rt := some .int) (by decide +kernel) mc_136 74 h)
-- WindBoat.telling(II)I, the place 19
set_option maxRecDepth 100000 in
set_option maxHeartbeats 8000000 in
theorem w_136_19 (μ : wm_M) (Q : Option Value → wm_M → Prop) (h : wm_OkI 0 161 [.ref 0, .int (-7 : Int32)] μ (fun r2 μ1 => Q (some (.int r2)) μ1)) : wm_Wp 0 136 19 [.ref 0, .null, .null, .null, .null] μ Q := wm_vc mo_136 (rt := some .int) (by decide +kernel) mc_136 74 h
-- WindBoat.telling(II)I, the place 26
set_option maxRecDepth 100000 in
set_option maxHeartbeats 8000000 in
theorem w_136_26 (x1 : Int32) (x2 : Int32) (μ : wm_M) (Q : Option Value → wm_M → Prop) (h : wm_OkR 0 163 [.ref 0] μ (fun μ1 => Q (some (.int (μ1.1 1 4))) (wm_si (wm_si μ1 1 4 x1) 1 5 x2))) : wm_Wp 0 136 26 [.ref 0, .int x1, .int x2, .null, .null] μ Q := wm_vc mo_136 (rt := some .int) (by decide +kernel) mc_136 74 h
-- WindBoat.choice(II)I
set_option maxRecDepth 100000 in
set_option maxHeartbeats 8000000 in
theorem v_137 (a1 : Int32) (a2 : Int32) (μ : wm_M) (Q : Option Value → wm_M → Prop) (h : wm_OkI 0 178 [.int a1, .int (0 : Int32), .int (2 : Int32)] μ (fun r2 μ1 => ((r2 = (0 : Int32) → wm_Wp 0 137 16 [.ref 0, .null, .null] μ1 Q) ∧ (¬ r2 = (0 : Int32) → wm_OkI 0 167 [.int a2] μ1 (fun r4 μ3 => ((r4 = (0 : Int32) → wm_Wp 0 137 16 [.ref 0, .null, .null] μ3 Q) ∧ (¬ r4 = (0 : Int32) → wm_Wp 0 137 23 [.ref 0, .int a1, .int a2] μ3 Q))))))) : wm_Ok 0 137 [.ref 0, .int a1, .int a2] μ Q := wm_ent (nL := 3) (l := [.ref 0, .int a1, .int a2]) (by decide +kernel) (by decide +kernel) (by decide +kernel) rfl rfl (wm_vc mo_137 (rt := some .int) (by decide +kernel) mc_137 58 h)
-- WindBoat.choice(II)I, the place 16
set_option maxRecDepth 100000 in
set_option maxHeartbeats 8000000 in
theorem w_137_16 (μ : wm_M) (Q : Option Value → wm_M → Prop) (h : wm_OkI 0 161 [.ref 0, .int (-3 : Int32)] μ (fun r2 μ1 => Q (some (.int r2)) μ1)) : wm_Wp 0 137 16 [.ref 0, .null, .null] μ Q := wm_vc mo_137 (rt := some .int) (by decide +kernel) mc_137 58 h
-- WindBoat.choice(II)I, the place 23
set_option maxRecDepth 100000 in
set_option maxHeartbeats 8000000 in
theorem w_137_23 (x1 : Int32) (x2 : Int32) (μ : wm_M) (Q : Option Value → wm_M → Prop) (h : wm_OkR 0 163 [.ref 0] μ (fun μ1 => wm_OkI 0 179 [.ref 27, .int x1, .int x2] μ1 (fun r3 μ2 => Q (some (.int r3)) μ2))) : wm_Wp 0 137 23 [.ref 0, .int x1, .int x2] μ Q := wm_vc mo_137 (rt := some .int) (by decide +kernel) mc_137 58 h
-- WindBoat.group(II)I
set_option maxRecDepth 100000 in
set_option maxHeartbeats 8000000 in
theorem v_138 (a1 : Int32) (a2 : Int32) (μ : wm_M) (Q : Option Value → wm_M → Prop) (h : wm_OkI 0 170 [.int a1] μ (fun r2 μ1 => ((r2 = (0 : Int32) → wm_OkI 0 161 [.ref 0, .int (-3 : Int32)] μ1 (fun r4 μ3 => Q (some (.int r4)) μ3)) ∧ (¬ r2 = (0 : Int32) → wm_Wp 0 138 14 [.ref 0, .int a1, .int a2] μ1 Q)))) : wm_Ok 0 138 [.ref 0, .int a1, .int a2] μ Q := wm_ent (nL := 3) (l := [.ref 0, .int a1, .int a2]) (by decide +kernel) (by decide +kernel) (by decide +kernel) rfl rfl (wm_vc mo_138 (rt := some .int) (by decide +kernel) mc_138 66 h)
-- WindBoat.group(II)I, the place 14
set_option maxRecDepth 100000 in
set_option maxHeartbeats 8000000 in
theorem w_138_14 (x1 : Int32) (x2 : Int32) (μ : wm_M) (Q : Option Value → wm_M → Prop) (h : wm_OkI 0 178 [.int x2, .int (0 : Int32), .int (2 : Int32)] μ (fun r2 μ1 => ((r2 = (0 : Int32) → wm_OkI 0 161 [.ref 0, .int (-7 : Int32)] μ1 (fun r4 μ3 => Q (some (.int r4)) μ3)) ∧ (¬ r2 = (0 : Int32) → wm_Wp 0 138 30 [.ref 0, .int x1, .int x2] μ1 Q)))) : wm_Wp 0 138 14 [.ref 0, .int x1, .int x2] μ Q := wm_vc mo_138 (rt := some .int) (by decide +kernel) mc_138 66 h
-- WindBoat.group(II)I, the place 30
set_option maxRecDepth 100000 in
set_option maxHeartbeats 8000000 in
theorem w_138_30 (x1 : Int32) (x2 : Int32) (μ : wm_M) (Q : Option Value → wm_M → Prop) (h : wm_OkR 0 163 [.ref 0] μ (fun μ1 => wm_OkI 0 179 [.ref 28, .int x1, .int x2] μ1 (fun r3 μ2 => Q (some (.int r3)) μ2))) : wm_Wp 0 138 30 [.ref 0, .int x1, .int x2] μ Q := wm_vc mo_138 (rt := some .int) (by decide +kernel) mc_138 66 h
-- WindBoat.comes(II)I
set_option maxRecDepth 100000 in
set_option maxHeartbeats 8000000 in
theorem v_139 (a1 : Int32) (a2 : Int32) (μ : wm_M) (Q : Option Value → wm_M → Prop) (h : (((μ.1 13 0) = (0 : Int32) → wm_OkI 0 161 [.ref 0, .int (-2 : Int32)] μ (fun r2 μ1 => Q (some (.int r2)) μ1)) ∧ (¬ (μ.1 13 0) = (0 : Int32) → wm_Wp 0 139 20 [.ref 0, .int a1, .int a2, .null, .null] μ Q))) : wm_Ok 0 139 [.ref 0, .int a1, .int a2] μ Q := wm_ent (nL := 5) (l := [.ref 0, .int a1, .int a2, .null, .null]) (by decide +kernel) (by decide +kernel) (by decide +kernel) rfl rfl (wm_vc mo_139 (rt := some .int) (by decide +kernel) mc_139 110 h)
-- WindBoat.comes(II)I, the place 20
set_option maxRecDepth 100000 in
set_option maxHeartbeats 8000000 in
theorem w_139_20 (x1 : Int32) (x2 : Int32) (μ : wm_M) (Q : Option Value → wm_M → Prop) (h : (¬ (10 : Int32) = 0 ∧ (¬ (10 : Int32) = 0 ∧ ((x1 < (0 : Int32) → wm_Wp 0 139 53 [.ref 0, .null, .null, .null, .null] μ Q) ∧ (¬ x1 < (0 : Int32) → (((3 : Int32) ≤ (x1 / (10 : Int32)) → wm_Wp 0 139 53 [.ref 0, .null, .null, .null, .null] μ Q) ∧ (¬ (3 : Int32) ≤ (x1 / (10 : Int32)) → (((3 : Int32) ≤ (x1 - x1 / (10 : Int32) * (10 : Int32)) → wm_Wp 0 139 53 [.ref 0, .null, .null, .null, .null] μ Q) ∧ (¬ (3 : Int32) ≤ (x1 - x1 / (10 : Int32) * (10 : Int32)) → wm_OkI 0 170 [.int x2] μ (fun r2 μ1 => ((r2 = (0 : Int32) → wm_Wp 0 139 53 [.ref 0, .null, .null, .null, .null] μ1 Q) ∧ (¬ r2 = (0 : Int32) → wm_Wp 0 139 60 [.ref 0, .null, .int x2, .int (x1 / (10 : Int32)), .int (x1 - x1 / (10 : Int32) * (10 : Int32))] μ1 Q)))))))))))) : wm_Wp 0 139 20 [.ref 0, .int x1, .int x2, .null, .null] μ Q := wm_vc mo_139 (rt := some .int) (by decide +kernel) mc_139 110 h
-- WindBoat.comes(II)I, the place 53
set_option maxRecDepth 100000 in
set_option maxHeartbeats 8000000 in
theorem w_139_53 (μ : wm_M) (Q : Option Value → wm_M → Prop) (h : wm_OkI 0 161 [.ref 0, .int (-3 : Int32)] μ (fun r2 μ1 => Q (some (.int r2)) μ1)) : wm_Wp 0 139 53 [.ref 0, .null, .null, .null, .null] μ Q := wm_vc mo_139 (rt := some .int) (by decide +kernel) mc_139 110 h
-- WindBoat.comes(II)I, the place 60
set_option maxRecDepth 100000 in
set_option maxHeartbeats 8000000 in
theorem w_139_60 (x2 : Int32) (x3 : Int32) (x4 : Int32) (μ : wm_M) (Q : Option Value → wm_M → Prop) (h : wm_OkV 0 17 [.ref 62] μ (fun μ1 => wm_OkI 0 49 [.ref 1] μ1 (fun r3 μ2 => wm_OkI 0 28 [.ref 75, .int x2, .int x3, .int x4, .int r3] μ2 (fun r5 μ4 => Q (some (.int r5)) μ4)))) : wm_Wp 0 139 60 [.ref 0, .null, .int x2, .int x3, .int x4] μ Q := wm_vc mo_139 (rt := some .int) (by decide +kernel) mc_139 110 h
-- WindBoat.tree(II)J
set_option maxRecDepth 100000 in
set_option maxHeartbeats 8000000 in
theorem v_140 (a1 : Int32) (a2 : Int32) (μ : wm_M) (Q : Option Value → wm_M → Prop) (h : (((μ.1 13 0) = (0 : Int32) → wm_Wp 0 140 26 [.ref 0, .null, .null] μ Q) ∧ (¬ (μ.1 13 0) = (0 : Int32) → wm_OkI 0 78 [.ref 2] μ (fun r2 μ1 => ((r2 = (0 : Int32) → wm_Wp 0 140 26 [.ref 0, .null, .null] μ1 Q) ∧ (¬ r2 = (0 : Int32) → wm_Wp 0 140 34 [.ref 0, .int a1, .int a2] μ1 Q)))))) : wm_Ok 0 140 [.ref 0, .int a1, .int a2] μ Q := wm_ent (nL := 3) (l := [.ref 0, .int a1, .int a2]) (by decide +kernel) (by decide +kernel) (by decide +kernel) rfl rfl (wm_vc mo_140 (rt := some .long) (by decide +kernel) mc_140 156 h)
-- WindBoat.tree(II)J, the place 26
set_option maxRecDepth 100000 in
set_option maxHeartbeats 8000000 in
theorem w_140_26 (μ : wm_M) (Q : Option Value → wm_M → Prop) (h : wm_OkI 0 161 [.ref 0, .int (-2 : Int32)] μ (fun r2 μ1 => Q (some (.long (r2).toInt64)) μ1)) : wm_Wp 0 140 26 [.ref 0, .null, .null] μ Q := wm_vc mo_140 (rt := some .long) (by decide +kernel) mc_140 156 h
-- WindBoat.tree(II)J, the place 34
set_option maxRecDepth 100000 in
set_option maxHeartbeats 8000000 in
theorem w_140_34 (x1 : Int32) (x2 : Int32) (μ : wm_M) (Q : Option Value → wm_M → Prop) (h : wm_OkI 0 178 [.int x1, .int (0 : Int32), .int (2 : Int32)] μ (fun r2 μ1 => ((r2 = (0 : Int32) → wm_Wp 0 140 52 [.ref 0, .null, .null] μ1 Q) ∧ (¬ r2 = (0 : Int32) → wm_OkI 0 178 [.int x2, .int (0 : Int32), .int (5 : Int32)] μ1 (fun r4 μ3 => ((r4 = (0 : Int32) → wm_Wp 0 140 52 [.ref 0, .null, .null] μ3 Q) ∧ (¬ r4 = (0 : Int32) → wm_Wp 0 140 60 [.ref 0, .int x1, .int x2] μ3 Q))))))) : wm_Wp 0 140 34 [.ref 0, .int x1, .int x2] μ Q := wm_vc mo_140 (rt := some .long) (by decide +kernel) mc_140 156 h
-- WindBoat.tree(II)J, the place 52
set_option maxRecDepth 100000 in
set_option maxHeartbeats 8000000 in
theorem w_140_52 (μ : wm_M) (Q : Option Value → wm_M → Prop) (h : wm_OkI 0 161 [.ref 0, .int (-7 : Int32)] μ (fun r2 μ1 => Q (some (.long (r2).toInt64)) μ1)) : wm_Wp 0 140 52 [.ref 0, .null, .null] μ Q := wm_vc mo_140 (rt := some .long) (by decide +kernel) mc_140 156 h
-- WindBoat.tree(II)J, the place 60
set_option maxRecDepth 100000 in
set_option maxHeartbeats 8000000 in
theorem w_140_60 (x1 : Int32) (x2 : Int32) (μ : wm_M) (Q : Option Value → wm_M → Prop) (h : wm_OkV 0 17 [.ref 62] μ (fun μ1 => wm_OkI 0 49 [.ref 1] μ1 (fun r3 μ2 => wm_OkV 0 30 [.ref 75, .int r3] μ2 (fun μ4 => wm_OkV 0 33 [.ref 75, .int x1, .int (0 : Int32)] μ4 (fun μ5 => (((∀ q ∈ (#[(0, 33), (1, 42), (5, 50)] : Array (Int × Int)).toList, ¬ (x2).toInt = q.1) → wm_Wp 0 140 149 [.ref 0, .null, .int x2] μ5 Q) ∧ (((x2).toInt = 0 → wm_Wp 0 140 124 [.ref 0, .null, .null] μ5 Q) ∧ (((x2).toInt = 1 → wm_Wp 0 140 133 [.ref 0, .null, .null] μ5 Q) ∧ (((x2).toInt = 5 → wm_Wp 0 140 141 [.ref 0, .null, .null] μ5 Q) ∧ True))))))))) : wm_Wp 0 140 60 [.ref 0, .int x1, .int x2] μ Q := wm_vc mo_140 (rt := some .long) (by decide +kernel) mc_140 156 h
-- WindBoat.tree(II)J, the place 124
set_option maxRecDepth 100000 in
set_option maxHeartbeats 8000000 in
theorem w_140_124 (μ : wm_M) (Q : Option Value → wm_M → Prop) (h : Q (some (.long ((μ.1 75 7)).toInt64)) μ) : wm_Wp 0 140 124 [.ref 0, .null, .null] μ Q := wm_vc mo_140 (rt := some .long) (by decide +kernel) mc_140 156 h
-- WindBoat.tree(II)J, the place 133
set_option maxRecDepth 100000 in
set_option maxHeartbeats 8000000 in
theorem w_140_133 (μ : wm_M) (Q : Option Value → wm_M → Prop) (h : Q (some (.long (μ.2 75 8))) μ) : wm_Wp 0 140 133 [.ref 0, .null, .null] μ Q := wm_vc mo_140 (rt := some .long) (by decide +kernel) mc_140 156 h
-- WindBoat.tree(II)J, the place 141
set_option maxRecDepth 100000 in
set_option maxHeartbeats 8000000 in
theorem w_140_141 (μ : wm_M) (Q : Option Value → wm_M → Prop) (h : wm_OkJ 0 36 [.ref 75] μ (fun r2 μ1 => Q (some (.long r2)) μ1)) : wm_Wp 0 140 141 [.ref 0, .null, .null] μ Q := wm_vc mo_140 (rt := some .long) (by decide +kernel) mc_140 156 h
-- WindBoat.tree(II)J, the place 149
set_option maxRecDepth 100000 in
set_option maxHeartbeats 8000000 in
theorem w_140_149 (x2 : Int32) (μ : wm_M) (Q : Option Value → wm_M → Prop) (h : (vp_in (x2 - (2 : Int32)) 3 ∧ Q (some (.long ((μ.1 79 ((x2 - (2 : Int32))).toNatClampNeg)).toInt64)) μ)) : wm_Wp 0 140 149 [.ref 0, .null, .int x2] μ Q := wm_vc mo_140 (rt := some .long) (by decide +kernel) mc_140 156 h
