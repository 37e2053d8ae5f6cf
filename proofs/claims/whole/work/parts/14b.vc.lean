/-! ===== what each block of code asks (printed by wip/gen/genvc.py) ===== -/
-- WindBoat$Choices.placeOf(III)I
set_option maxRecDepth 100000 in
set_option maxHeartbeats 8000000 in
theorem f_32 (a0 : Int32) (a1 : Int32) (a2 : Int32) (μ : wm_M) (Q : Option Value → wm_M → Prop) (h : Q (some (.int ((((a0 * (3 : Int32)) + a1) * (3 : Int32)) + a2))) μ) : wm_Ok 0 32 [.int a0, .int a1, .int a2] μ Q := wm_ent (nL := 3) (l := [.int a0, .int a1, .int a2]) (by decide +kernel) (by decide +kernel) (by decide +kernel) rfl rfl (wm_vc mo_32 (rt := some .int) (by decide +kernel) mc_32 40 h)
-- WindBoat$Choices.choose(IZ)V
set_option maxRecDepth 100000 in
set_option maxHeartbeats 8000000 in
theorem f_33 (a1 : Int32) (a2 : Int32) (μ : wm_M) (Q : Option Value → wm_M → Prop) (h : wm_Wp 0 33 5 [.ref 75, .int a1, .int a2, .null, .null, .null] (wm_si μ 75 7 (-1 : Int32)) Q) : wm_Ok 0 33 [.ref 75, .int a1, .int a2] μ Q := wm_ent (nL := 6) (l := [.ref 75, .int a1, .int a2, .null, .null, .null]) (by decide +kernel) (by decide +kernel) (by decide +kernel) rfl rfl (wm_vc mo_33 (rt := none) (by decide +kernel) mc_33 100 h)
-- WindBoat$Choices.choose(IZ)V, the place 5
set_option maxRecDepth 100000 in
set_option maxHeartbeats 8000000 in
theorem f_33_5 (x1 : Int32) (x2 : Int32) (μ : wm_M) (Q : Option Value → wm_M → Prop) (h : wm_Wp 0 33 7 [.ref 75, .int x1, .int x2, .int (0 : Int32), .null, .null] μ Q) : wm_Wp 0 33 5 [.ref 75, .int x1, .int x2, .null, .null, .null] μ Q := wm_vc mo_33 (rt := none) (by decide +kernel) mc_33 100 h
-- WindBoat$Choices.choose(IZ)V, the place 7
set_option maxRecDepth 100000 in
set_option maxHeartbeats 8000000 in
theorem f_33_7 (x1 : Int32) (x2 : Int32) (x3 : Int32) (μ : wm_M) (Q : Option Value → wm_M → Prop) (h : (((3 : Int32) ≤ x3 → wm_Wp 0 33 70 [.null, .null, .null, .null, .null, .null] μ Q) ∧ (¬ (3 : Int32) ≤ x3 → wm_OkJ 0 34 [.ref 75, .int x1, .int x3, .int x2] μ (fun r2 μ1 => wm_Wp 0 33 21 [.ref 75, .int x1, .int x2, .int x3, .long r2, .null] μ1 Q)))) : wm_Wp 0 33 7 [.ref 75, .int x1, .int x2, .int x3, .null, .null] μ Q := wm_vc mo_33 (rt := none) (by decide +kernel) mc_33 100 h
-- WindBoat$Choices.choose(IZ)V, the place 21
set_option maxRecDepth 100000 in
set_option maxHeartbeats 8000000 in
theorem f_33_21 (x1 : Int32) (x2 : Int32) (x3 : Int32) (x4 : Int64) (μ : wm_M) (Q : Option Value → wm_M → Prop) (h : (((μ.1 75 7) = (-1 : Int32) → wm_Wp 0 33 39 [.ref 75, .int x1, .int x2, .int x3, .long x4, .null] μ Q) ∧ (¬ (μ.1 75 7) = (-1 : Int32) → (((0 : Int32) ≤ (lg_cmp x4 (μ.2 75 8)) → wm_Wp 0 33 64 [.ref 75, .int x1, .int x2, .int x3, .null, .null] μ Q) ∧ (¬ (0 : Int32) ≤ (lg_cmp x4 (μ.2 75 8)) → wm_Wp 0 33 39 [.ref 75, .int x1, .int x2, .int x3, .long x4, .null] μ Q))))) : wm_Wp 0 33 21 [.ref 75, .int x1, .int x2, .int x3, .long x4, .null] μ Q := wm_vc mo_33 (rt := none) (by decide +kernel) mc_33 100 h
-- WindBoat$Choices.choose(IZ)V, the place 39
set_option maxRecDepth 100000 in
set_option maxHeartbeats 8000000 in
theorem f_33_39 (x1 : Int32) (x2 : Int32) (x3 : Int32) (x4 : Int64) (μ : wm_M) (Q : Option Value → wm_M → Prop) (h : wm_Wp 0 33 44 [.ref 75, .int x1, .int x2, .int x3, .long x4, .null] (wm_si μ 75 7 x3) Q) : wm_Wp 0 33 39 [.ref 75, .int x1, .int x2, .int x3, .long x4, .null] μ Q := wm_vc mo_33 (rt := none) (by decide +kernel) mc_33 100 h
-- WindBoat$Choices.choose(IZ)V, the place 44
set_option maxRecDepth 100000 in
set_option maxHeartbeats 8000000 in
theorem f_33_44 (x1 : Int32) (x2 : Int32) (x3 : Int32) (x4 : Int64) (μ : wm_M) (Q : Option Value → wm_M → Prop) (h : wm_Wp 0 33 50 [.ref 75, .int x1, .int x2, .int x3, .null, .null] (wm_sl μ 75 8 x4) Q) : wm_Wp 0 33 44 [.ref 75, .int x1, .int x2, .int x3, .long x4, .null] μ Q := wm_vc mo_33 (rt := none) (by decide +kernel) mc_33 100 h
-- WindBoat$Choices.choose(IZ)V, the place 50
set_option maxRecDepth 100000 in
set_option maxHeartbeats 8000000 in
theorem f_33_50 (x1 : Int32) (x2 : Int32) (x3 : Int32) (μ : wm_M) (Q : Option Value → wm_M → Prop) (h : (¬ (0 : Int32) < 0 ∧ ¬ (0 : Int32) < 0 ∧ ¬ (3 : Int32) < 0 ∧ ((0 : Int32)).toNatClampNeg + ((3 : Int32)).toNatClampNeg ≤ 3 ∧ ((0 : Int32)).toNatClampNeg + ((3 : Int32)).toNatClampNeg ≤ 3 ∧ ∀ μ1, μ1 = wm_sr μ 79 (va_cpy (μ.1 80) (μ.1 79) ((0 : Int32)).toNatClampNeg ((0 : Int32)).toNatClampNeg ((3 : Int32)).toNatClampNeg) → wm_Wp 0 33 64 [.ref 75, .int x1, .int x2, .int x3, .null, .null] μ1 Q)) : wm_Wp 0 33 50 [.ref 75, .int x1, .int x2, .int x3, .null, .null] μ Q := wm_vc mo_33 (rt := none) (by decide +kernel) mc_33 100 h
-- WindBoat$Choices.choose(IZ)V, the place 64
set_option maxRecDepth 100000 in
set_option maxHeartbeats 8000000 in
theorem f_33_64 (x1 : Int32) (x2 : Int32) (x3 : Int32) (μ : wm_M) (Q : Option Value → wm_M → Prop) (h : wm_Wp 0 33 7 [.ref 75, .int x1, .int x2, .int (x3 + (1 : Int32)), .null, .null] μ Q) : wm_Wp 0 33 64 [.ref 75, .int x1, .int x2, .int x3, .null, .null] μ Q := wm_vc mo_33 (rt := none) (by decide +kernel) mc_33 100 h
-- WindBoat$Choices.choose(IZ)V, the place 70
set_option maxRecDepth 100000 in
set_option maxHeartbeats 8000000 in
theorem f_33_70 (μ : wm_M) (Q : Option Value → wm_M → Prop) (h : Q none μ) : wm_Wp 0 33 70 [.null, .null, .null, .null, .null, .null] μ Q := wm_vc mo_33 (rt := none) (by decide +kernel) mc_33 100 h
-- WindBoat$Choices.tryFirst(IIZ)J
set_option maxRecDepth 100000 in
set_option maxHeartbeats 8000000 in
theorem f_34 (a1 : Int32) (a2 : Int32) (a3 : Int32) (μ : wm_M) (Q : Option Value → wm_M → Prop) (h : wm_Wp 0 34 6 [.ref 75, .int a1, .int a2, .int a3, .long (0 : Int64), .null, .int (0 : Int32), .null, .null, .null, .null, .null] μ Q) : wm_Ok 0 34 [.ref 75, .int a1, .int a2, .int a3] μ Q := wm_ent (nL := 12) (l := [.ref 75, .int a1, .int a2, .int a3, .null, .null, .null, .null, .null, .null, .null, .null]) (by decide +kernel) (by decide +kernel) (by decide +kernel) rfl rfl (wm_vc mo_34 (rt := some .long) (by decide +kernel) mc_34 160 h)
-- WindBoat$Choices.tryFirst(IIZ)J, the place 6
set_option maxRecDepth 100000 in
set_option maxHeartbeats 8000000 in
theorem f_34_6 (x1 : Int32) (x2 : Int32) (x3 : Int32) (x4 : Int64) (x6 : Int32) (μ : wm_M) (Q : Option Value → wm_M → Prop) (h : (((3 : Int32) ≤ x6 → wm_Wp 0 34 132 [.null, .null, .null, .null, .long x4, .null, .null, .null, .null, .null, .null, .null] μ Q) ∧ (¬ (3 : Int32) ≤ x6 → (vp_in x6 3 ∧ wm_Wp 0 34 20 [.ref 75, .int x1, .int x2, .int x3, .long x4, .null, .int x6, .null, .null, .null, .null, .null] (wm_si μ 80 (x6).toNatClampNeg (-1 : Int32)) Q)))) : wm_Wp 0 34 6 [.ref 75, .int x1, .int x2, .int x3, .long x4, .null, .int x6, .null, .null, .null, .null, .null] μ Q := wm_vc mo_34 (rt := some .long) (by decide +kernel) mc_34 160 h
-- WindBoat$Choices.tryFirst(IIZ)J, the place 20
set_option maxRecDepth 100000 in
set_option maxHeartbeats 8000000 in
theorem f_34_20 (x1 : Int32) (x2 : Int32) (x3 : Int32) (x4 : Int64) (x6 : Int32) (μ : wm_M) (Q : Option Value → wm_M → Prop) (h : wm_Wp 0 34 28 [.ref 75, .int x1, .int x2, .int x3, .long x4, .null, .int x6, .long (-1 : Int64), .null, .int (0 : Int32), .null, .null] μ Q) : wm_Wp 0 34 20 [.ref 75, .int x1, .int x2, .int x3, .long x4, .null, .int x6, .null, .null, .null, .null, .null] μ Q := wm_vc mo_34 (rt := some .long) (by decide +kernel) mc_34 160 h
-- WindBoat$Choices.tryFirst(IIZ)J, the place 28
set_option maxRecDepth 100000 in
set_option maxHeartbeats 8000000 in
theorem f_34_28 (x1 : Int32) (x2 : Int32) (x3 : Int32) (x4 : Int64) (x6 : Int32) (x7 : Int64) (x9 : Int32) (μ : wm_M) (Q : Option Value → wm_M → Prop) (h : (((3 : Int32) ≤ x9 → wm_Wp 0 34 94 [.ref 75, .int x1, .int x2, .int x3, .long x4, .null, .int x6, .long x7, .null, .null, .null, .null] μ Q) ∧ (¬ (3 : Int32) ≤ x9 → wm_OkJ 0 35 [.ref 75, .int x1, .int x2, .int x9, .int x6, .int x3] μ (fun r2 μ1 => wm_Wp 0 34 47 [.ref 75, .int x1, .int x2, .int x3, .long x4, .null, .int x6, .long x7, .null, .int x9, .long r2, .null] μ1 Q)))) : wm_Wp 0 34 28 [.ref 75, .int x1, .int x2, .int x3, .long x4, .null, .int x6, .long x7, .null, .int x9, .null, .null] μ Q := wm_vc mo_34 (rt := some .long) (by decide +kernel) mc_34 160 h
-- WindBoat$Choices.tryFirst(IIZ)J, the place 47
set_option maxRecDepth 100000 in
set_option maxHeartbeats 8000000 in
theorem f_34_47 (x1 : Int32) (x2 : Int32) (x3 : Int32) (x4 : Int64) (x6 : Int32) (x7 : Int64) (x9 : Int32) (x10 : Int64) (μ : wm_M) (Q : Option Value → wm_M → Prop) (h : (((lg_cmp x10 (-1 : Int64)) = (0 : Int32) → wm_Wp 0 34 88 [.ref 75, .int x1, .int x2, .int x3, .long x4, .null, .int x6, .long x7, .null, .int x9, .null, .null] μ Q) ∧ (¬ (lg_cmp x10 (-1 : Int64)) = (0 : Int32) → (vp_in x6 3 ∧ (((μ.1 80 (x6).toNatClampNeg) = (-1 : Int32) → wm_Wp 0 34 75 [.ref 75, .int x1, .int x2, .int x3, .long x4, .null, .int x6, .null, .null, .int x9, .long x10, .null] μ Q) ∧ (¬ (μ.1 80 (x6).toNatClampNeg) = (-1 : Int32) → (((0 : Int32) ≤ (lg_cmp x10 x7) → wm_Wp 0 34 88 [.ref 75, .int x1, .int x2, .int x3, .long x4, .null, .int x6, .long x7, .null, .int x9, .null, .null] μ Q) ∧ (¬ (0 : Int32) ≤ (lg_cmp x10 x7) → wm_Wp 0 34 75 [.ref 75, .int x1, .int x2, .int x3, .long x4, .null, .int x6, .null, .null, .int x9, .long x10, .null] μ Q)))))))) : wm_Wp 0 34 47 [.ref 75, .int x1, .int x2, .int x3, .long x4, .null, .int x6, .long x7, .null, .int x9, .long x10, .null] μ Q := wm_vc mo_34 (rt := some .long) (by decide +kernel) mc_34 160 h
-- WindBoat$Choices.tryFirst(IIZ)J, the place 75
set_option maxRecDepth 100000 in
set_option maxHeartbeats 8000000 in
theorem f_34_75 (x1 : Int32) (x2 : Int32) (x3 : Int32) (x4 : Int64) (x6 : Int32) (x9 : Int32) (x10 : Int64) (μ : wm_M) (Q : Option Value → wm_M → Prop) (h : (vp_in x6 3 ∧ wm_Wp 0 34 84 [.ref 75, .int x1, .int x2, .int x3, .long x4, .null, .int x6, .null, .null, .int x9, .long x10, .null] (wm_si μ 80 (x6).toNatClampNeg x9) Q)) : wm_Wp 0 34 75 [.ref 75, .int x1, .int x2, .int x3, .long x4, .null, .int x6, .null, .null, .int x9, .long x10, .null] μ Q := wm_vc mo_34 (rt := some .long) (by decide +kernel) mc_34 160 h
-- WindBoat$Choices.tryFirst(IIZ)J, the place 84
set_option maxRecDepth 100000 in
set_option maxHeartbeats 8000000 in
theorem f_34_84 (x1 : Int32) (x2 : Int32) (x3 : Int32) (x4 : Int64) (x6 : Int32) (x9 : Int32) (x10 : Int64) (μ : wm_M) (Q : Option Value → wm_M → Prop) (h : wm_Wp 0 34 88 [.ref 75, .int x1, .int x2, .int x3, .long x4, .null, .int x6, .long x10, .null, .int x9, .null, .null] μ Q) : wm_Wp 0 34 84 [.ref 75, .int x1, .int x2, .int x3, .long x4, .null, .int x6, .null, .null, .int x9, .long x10, .null] μ Q := wm_vc mo_34 (rt := some .long) (by decide +kernel) mc_34 160 h
-- WindBoat$Choices.tryFirst(IIZ)J, the place 88
set_option maxRecDepth 100000 in
set_option maxHeartbeats 8000000 in
theorem f_34_88 (x1 : Int32) (x2 : Int32) (x3 : Int32) (x4 : Int64) (x6 : Int32) (x7 : Int64) (x9 : Int32) (μ : wm_M) (Q : Option Value → wm_M → Prop) (h : wm_Wp 0 34 28 [.ref 75, .int x1, .int x2, .int x3, .long x4, .null, .int x6, .long x7, .null, .int (x9 + (1 : Int32)), .null, .null] μ Q) : wm_Wp 0 34 88 [.ref 75, .int x1, .int x2, .int x3, .long x4, .null, .int x6, .long x7, .null, .int x9, .null, .null] μ Q := wm_vc mo_34 (rt := some .long) (by decide +kernel) mc_34 160 h
-- WindBoat$Choices.tryFirst(IIZ)J, the place 94
set_option maxRecDepth 100000 in
set_option maxHeartbeats 8000000 in
theorem f_34_94 (x1 : Int32) (x2 : Int32) (x3 : Int32) (x4 : Int64) (x6 : Int32) (x7 : Int64) (μ : wm_M) (Q : Option Value → wm_M → Prop) (h : (vp_in x6 3 ∧ (((μ.1 80 (x6).toNatClampNeg) = (-1 : Int32) → wm_Wp 0 34 126 [.ref 75, .int x1, .int x2, .int x3, .long x4, .null, .int x6, .null, .null, .null, .null, .null] μ Q) ∧ (¬ (μ.1 80 (x6).toNatClampNeg) = (-1 : Int32) → ((x1 = (0 : Int32) → wm_Wp 0 34 126 [.ref 75, .int x1, .int x2, .int x3, .long (x4 + x7), .null, .int x6, .null, .null, .null, .null, .null] μ Q) ∧ (¬ x1 = (0 : Int32) → wm_Wp 0 34 117 [.ref 75, .int x1, .int x2, .int x3, .long x4, .null, .int x6, .long x7, .null, .null, .null, .null] μ Q)))))) : wm_Wp 0 34 94 [.ref 75, .int x1, .int x2, .int x3, .long x4, .null, .int x6, .long x7, .null, .null, .null, .null] μ Q := wm_vc mo_34 (rt := some .long) (by decide +kernel) mc_34 160 h
-- WindBoat$Choices.tryFirst(IIZ)J, the place 117
set_option maxRecDepth 100000 in
set_option maxHeartbeats 8000000 in
theorem f_34_117 (x1 : Int32) (x2 : Int32) (x3 : Int32) (x4 : Int64) (x6 : Int32) (x7 : Int64) (μ : wm_M) (Q : Option Value → wm_M → Prop) (h : wm_Wp 0 34 126 [.ref 75, .int x1, .int x2, .int x3, .long (if x7 < x4 then x4 else x7), .null, .int x6, .null, .null, .null, .null, .null] μ Q) : wm_Wp 0 34 117 [.ref 75, .int x1, .int x2, .int x3, .long x4, .null, .int x6, .long x7, .null, .null, .null, .null] μ Q := wm_vc mo_34 (rt := some .long) (by decide +kernel) mc_34 160 h
-- WindBoat$Choices.tryFirst(IIZ)J, the place 126
set_option maxRecDepth 100000 in
set_option maxHeartbeats 8000000 in
theorem f_34_126 (x1 : Int32) (x2 : Int32) (x3 : Int32) (x4 : Int64) (x6 : Int32) (μ : wm_M) (Q : Option Value → wm_M → Prop) (h : wm_Wp 0 34 6 [.ref 75, .int x1, .int x2, .int x3, .long x4, .null, .int (x6 + (1 : Int32)), .null, .null, .null, .null, .null] μ Q) : wm_Wp 0 34 126 [.ref 75, .int x1, .int x2, .int x3, .long x4, .null, .int x6, .null, .null, .null, .null, .null] μ Q := wm_vc mo_34 (rt := some .long) (by decide +kernel) mc_34 160 h
-- WindBoat$Choices.tryFirst(IIZ)J, the place 132
set_option maxRecDepth 100000 in
set_option maxHeartbeats 8000000 in
theorem f_34_132 (x4 : Int64) (μ : wm_M) (Q : Option Value → wm_M → Prop) (h : Q (some (.long x4)) μ) : wm_Wp 0 34 132 [.null, .null, .null, .null, .long x4, .null, .null, .null, .null, .null, .null, .null] μ Q := wm_vc mo_34 (rt := some .long) (by decide +kernel) mc_34 160 h
-- WindBoat$Choices.aimOf(IIIIZ)J
set_option maxRecDepth 100000 in
set_option maxHeartbeats 8000000 in
theorem f_35 (a1 : Int32) (a2 : Int32) (a3 : Int32) (a4 : Int32) (a5 : Int32) (μ : wm_M) (Q : Option Value → wm_M → Prop) (h : wm_Wp 0 35 8 [.ref 75, .int a1, .int a2, .int a3, .int a4, .int a5, .long (-1 : Int64), .null, .int (0 : Int32), .null, .null, .null] μ Q) : wm_Ok 0 35 [.ref 75, .int a1, .int a2, .int a3, .int a4, .int a5] μ Q := wm_ent (nL := 12) (l := [.ref 75, .int a1, .int a2, .int a3, .int a4, .int a5, .null, .null, .null, .null, .null, .null]) (by decide +kernel) (by decide +kernel) (by decide +kernel) rfl rfl (wm_vc mo_35 (rt := some .long) (by decide +kernel) mc_35 162 h)
-- WindBoat$Choices.aimOf(IIIIZ)J, the place 8
set_option maxRecDepth 100000 in
set_option maxHeartbeats 8000000 in
theorem f_35_8 (x1 : Int32) (x2 : Int32) (x3 : Int32) (x4 : Int32) (x5 : Int32) (x6 : Int64) (x8 : Int32) (μ : wm_M) (Q : Option Value → wm_M → Prop) (h : (((6 : Int32) ≤ x8 → wm_Wp 0 35 137 [.null, .null, .null, .null, .null, .null, .long x6, .null, .null, .null, .null, .null] μ Q) ∧ (¬ (6 : Int32) ≤ x8 → ((x5 = (0 : Int32) → wm_Wp 0 35 24 [.ref 75, .int x1, .int x2, .int x3, .int x4, .int x5, .long x6, .null, .int x8, .null, .null, .null] μ Q) ∧ (¬ x5 = (0 : Int32) → (((0 : Int32) = x4 → wm_OkI 0 76 [.ref 2, .int x8] μ (fun r2 μ1 => ((r2 = (0 : Int32) → wm_Wp 0 35 131 [.ref 75, .int x1, .int x2, .int x3, .int x4, .int x5, .long x6, .null, .int x8, .null, .null, .null] μ1 Q) ∧ (¬ r2 = (0 : Int32) → wm_Wp 0 35 58 [.ref 75, .int x1, .int x2, .int x3, .int x4, .int x5, .long x6, .null, .int x8, .null, .null, .null] μ1 Q)))) ∧ (¬ (0 : Int32) = x4 → wm_Wp 0 35 131 [.ref 75, .int x1, .int x2, .int x3, .int x4, .int x5, .long x6, .null, .int x8, .null, .null, .null] μ Q))))))) : wm_Wp 0 35 8 [.ref 75, .int x1, .int x2, .int x3, .int x4, .int x5, .long x6, .null, .int x8, .null, .null, .null] μ Q := wm_vc mo_35 (rt := some .long) (by decide +kernel) mc_35 162 h
-- WindBoat$Choices.aimOf(IIIIZ)J, the place 24
set_option maxRecDepth 100000 in
set_option maxHeartbeats 8000000 in
theorem f_35_24 (x1 : Int32) (x2 : Int32) (x3 : Int32) (x4 : Int32) (x5 : Int32) (x6 : Int64) (x8 : Int32) (μ : wm_M) (Q : Option Value → wm_M → Prop) (h : (vp_in x8 6 ∧ (((μ.1 28 (x8).toNatClampNeg) = x4 → wm_OkI 0 76 [.ref 2, .int x8] μ (fun r2 μ1 => ((r2 = (0 : Int32) → wm_Wp 0 35 131 [.ref 75, .int x1, .int x2, .int x3, .int x4, .int x5, .long x6, .null, .int x8, .null, .null, .null] μ1 Q) ∧ (¬ r2 = (0 : Int32) → wm_Wp 0 35 58 [.ref 75, .int x1, .int x2, .int x3, .int x4, .int x5, .long x6, .null, .int x8, .null, .null, .null] μ1 Q)))) ∧ (¬ (μ.1 28 (x8).toNatClampNeg) = x4 → wm_Wp 0 35 131 [.ref 75, .int x1, .int x2, .int x3, .int x4, .int x5, .long x6, .null, .int x8, .null, .null, .null] μ Q)))) : wm_Wp 0 35 24 [.ref 75, .int x1, .int x2, .int x3, .int x4, .int x5, .long x6, .null, .int x8, .null, .null, .null] μ Q := wm_vc mo_35 (rt := some .long) (by decide +kernel) mc_35 162 h
-- WindBoat$Choices.aimOf(IIIIZ)J, the place 58
set_option maxRecDepth 100000 in
set_option maxHeartbeats 8000000 in
theorem f_35_58 (x1 : Int32) (x2 : Int32) (x3 : Int32) (x4 : Int32) (x5 : Int32) (x6 : Int64) (x8 : Int32) (μ : wm_M) (Q : Option Value → wm_M → Prop) (h : wm_OkI 0 32 [.int x8, .int x2, .int x3] μ (fun r2 μ1 => (vp_in r2 54 ∧ wm_Wp 0 35 72 [.ref 75, .int x1, .int x2, .int x3, .int x4, .int x5, .long x6, .null, .int x8, .null, .int (μ1.1 76 (r2).toNatClampNeg), .null] μ1 Q))) : wm_Wp 0 35 58 [.ref 75, .int x1, .int x2, .int x3, .int x4, .int x5, .long x6, .null, .int x8, .null, .null, .null] μ Q := wm_vc mo_35 (rt := some .long) (by decide +kernel) mc_35 162 h
-- WindBoat$Choices.aimOf(IIIIZ)J, the place 72
set_option maxRecDepth 100000 in
set_option maxHeartbeats 8000000 in
theorem f_35_72 (x1 : Int32) (x2 : Int32) (x3 : Int32) (x4 : Int32) (x5 : Int32) (x6 : Int64) (x8 : Int32) (x10 : Int32) (μ : wm_M) (Q : Option Value → wm_M → Prop) (h : ((x1 = (0 : Int32) → (vp_in x8 6 ∧ wm_Wp 0 35 97 [.ref 75, .int x1, .int x2, .int x3, .int x4, .int x5, .long ((if x6 < (0 : Int64) then (0 : Int64) else x6) + (((μ.1 78 (x8).toNatClampNeg)).toInt64 * (x10).toInt64)), .null, .int x8, .null, .null, .null] μ Q)) ∧ (¬ x1 = (0 : Int32) → wm_Wp 0 35 100 [.ref 75, .int x1, .int x2, .int x3, .int x4, .int x5, .long x6, .null, .int x8, .null, .int x10, .null] μ Q))) : wm_Wp 0 35 72 [.ref 75, .int x1, .int x2, .int x3, .int x4, .int x5, .long x6, .null, .int x8, .null, .int x10, .null] μ Q := wm_vc mo_35 (rt := some .long) (by decide +kernel) mc_35 162 h
-- WindBoat$Choices.aimOf(IIIIZ)J, the place 97
set_option maxRecDepth 100000 in
set_option maxHeartbeats 8000000 in
theorem f_35_97 (x1 : Int32) (x2 : Int32) (x3 : Int32) (x4 : Int32) (x5 : Int32) (x6 : Int64) (x8 : Int32) (μ : wm_M) (Q : Option Value → wm_M → Prop) (h : wm_Wp 0 35 131 [.ref 75, .int x1, .int x2, .int x3, .int x4, .int x5, .long x6, .null, .int x8, .null, .null, .null] μ Q) : wm_Wp 0 35 97 [.ref 75, .int x1, .int x2, .int x3, .int x4, .int x5, .long x6, .null, .int x8, .null, .null, .null] μ Q := wm_vc mo_35 (rt := some .long) (by decide +kernel) mc_35 162 h
-- WindBoat$Choices.aimOf(IIIIZ)J, the place 100
set_option maxRecDepth 100000 in
set_option maxHeartbeats 8000000 in
theorem f_35_100 (x1 : Int32) (x2 : Int32) (x3 : Int32) (x4 : Int32) (x5 : Int32) (x6 : Int64) (x8 : Int32) (x10 : Int32) (μ : wm_M) (Q : Option Value → wm_M → Prop) (h : ((x1 = (1 : Int32) → wm_Wp 0 35 131 [.ref 75, .int x1, .int x2, .int x3, .int x4, .int x5, .long (if ((x10 - (0 : Int32))).toInt64 < x6 then x6 else ((x10 - (0 : Int32))).toInt64), .null, .int x8, .null, .null, .null] μ Q) ∧ (¬ x1 = (1 : Int32) → wm_Wp 0 35 109 [.ref 75, .int x1, .int x2, .int x3, .int x4, .int x5, .long x6, .null, .int x8, .null, .int x10, .null] μ Q))) : wm_Wp 0 35 100 [.ref 75, .int x1, .int x2, .int x3, .int x4, .int x5, .long x6, .null, .int x8, .null, .int x10, .null] μ Q := wm_vc mo_35 (rt := some .long) (by decide +kernel) mc_35 162 h
-- WindBoat$Choices.aimOf(IIIIZ)J, the place 109
set_option maxRecDepth 100000 in
set_option maxHeartbeats 8000000 in
theorem f_35_109 (x1 : Int32) (x2 : Int32) (x3 : Int32) (x4 : Int32) (x5 : Int32) (x6 : Int64) (x8 : Int32) (x10 : Int32) (μ : wm_M) (Q : Option Value → wm_M → Prop) (h : (vp_in x8 6 ∧ wm_Wp 0 35 131 [.ref 75, .int x1, .int x2, .int x3, .int x4, .int x5, .long (if ((x10 - (μ.1 77 (x8).toNatClampNeg))).toInt64 < x6 then x6 else ((x10 - (μ.1 77 (x8).toNatClampNeg))).toInt64), .null, .int x8, .null, .null, .null] μ Q)) : wm_Wp 0 35 109 [.ref 75, .int x1, .int x2, .int x3, .int x4, .int x5, .long x6, .null, .int x8, .null, .int x10, .null] μ Q := wm_vc mo_35 (rt := some .long) (by decide +kernel) mc_35 162 h
-- WindBoat$Choices.aimOf(IIIIZ)J, the place 131
set_option maxRecDepth 100000 in
set_option maxHeartbeats 8000000 in
theorem f_35_131 (x1 : Int32) (x2 : Int32) (x3 : Int32) (x4 : Int32) (x5 : Int32) (x6 : Int64) (x8 : Int32) (μ : wm_M) (Q : Option Value → wm_M → Prop) (h : wm_Wp 0 35 8 [.ref 75, .int x1, .int x2, .int x3, .int x4, .int x5, .long x6, .null, .int (x8 + (1 : Int32)), .null, .null, .null] μ Q) : wm_Wp 0 35 131 [.ref 75, .int x1, .int x2, .int x3, .int x4, .int x5, .long x6, .null, .int x8, .null, .null, .null] μ Q := wm_vc mo_35 (rt := some .long) (by decide +kernel) mc_35 162 h
-- WindBoat$Choices.aimOf(IIIIZ)J, the place 137
set_option maxRecDepth 100000 in
set_option maxHeartbeats 8000000 in
theorem f_35_137 (x6 : Int64) (μ : wm_M) (Q : Option Value → wm_M → Prop) (h : Q (some (.long x6)) μ) : wm_Wp 0 35 137 [.null, .null, .null, .null, .null, .null, .long x6, .null, .null, .null, .null, .null] μ Q := wm_vc mo_35 (rt := some .long) (by decide +kernel) mc_35 162 h
-- WindBoat$Choices.places()J
set_option maxRecDepth 100000 in
set_option maxHeartbeats 8000000 in
theorem f_36 (μ : wm_M) (Q : Option Value → wm_M → Prop) (h : wm_Wp 0 36 4 [.ref 75, .long (0 : Int64), .null, .int (0 : Int32), .null, .null] μ Q) : wm_Ok 0 36 [.ref 75] μ Q := wm_ent (nL := 6) (l := [.ref 75, .null, .null, .null, .null, .null]) (by decide +kernel) (by decide +kernel) (by decide +kernel) rfl rfl (wm_vc mo_36 (rt := some .long) (by decide +kernel) mc_36 126 h)
-- WindBoat$Choices.places()J, the place 4
set_option maxRecDepth 100000 in
set_option maxHeartbeats 8000000 in
theorem f_36_4 (x1 : Int64) (x3 : Int32) (μ : wm_M) (Q : Option Value → wm_M → Prop) (h : (((6 : Int32) ≤ x3 → wm_Wp 0 36 91 [.null, .long x1, .null, .null, .null, .null] μ Q) ∧ (¬ (6 : Int32) ≤ x3 → (vp_in x3 6 ∧ (vp_in (μ.1 28 (x3).toNatClampNeg) 3 ∧ wm_Wp 0 36 26 [.ref 75, .long x1, .null, .int x3, .int (μ.1 79 ((μ.1 28 (x3).toNatClampNeg)).toNatClampNeg), .null] μ Q))))) : wm_Wp 0 36 4 [.ref 75, .long x1, .null, .int x3, .null, .null] μ Q := wm_vc mo_36 (rt := some .long) (by decide +kernel) mc_36 126 h
-- WindBoat$Choices.places()J, the place 26
set_option maxRecDepth 100000 in
set_option maxHeartbeats 8000000 in
theorem f_36_26 (x1 : Int64) (x3 : Int32) (x4 : Int32) (μ : wm_M) (Q : Option Value → wm_M → Prop) (h : ((x4 = (-1 : Int32) → wm_Wp 0 36 85 [.ref 75, .long x1, .null, .int x3, .null, .null] μ Q) ∧ (¬ x4 = (-1 : Int32) → wm_OkI 0 76 [.ref 2, .int x3] μ (fun r2 μ1 => ((r2 = (0 : Int32) → wm_Wp 0 36 85 [.ref 75, .long x1, .null, .int x3, .null, .null] μ1 Q) ∧ (¬ r2 = (0 : Int32) → wm_Wp 0 36 46 [.ref 75, .long x1, .null, .int x3, .int x4, .null] μ1 Q)))))) : wm_Wp 0 36 26 [.ref 75, .long x1, .null, .int x3, .int x4, .null] μ Q := wm_vc mo_36 (rt := some .long) (by decide +kernel) mc_36 126 h
-- WindBoat$Choices.places()J, the place 46
set_option maxRecDepth 100000 in
set_option maxHeartbeats 8000000 in
theorem f_36_46 (x1 : Int64) (x3 : Int32) (x4 : Int32) (μ : wm_M) (Q : Option Value → wm_M → Prop) (h : wm_OkI 0 32 [.int x3, .int (μ.1 75 7), .int x4] μ (fun r2 μ1 => (vp_in r2 54 ∧ wm_Wp 0 36 63 [.ref 75, .long x1, .null, .int x3, .null, .int (μ1.1 76 (r2).toNatClampNeg)] μ1 Q))) : wm_Wp 0 36 46 [.ref 75, .long x1, .null, .int x3, .int x4, .null] μ Q := wm_vc mo_36 (rt := some .long) (by decide +kernel) mc_36 126 h
-- WindBoat$Choices.places()J, the place 63
set_option maxRecDepth 100000 in
set_option maxHeartbeats 8000000 in
theorem f_36_63 (x1 : Int64) (x3 : Int32) (x5 : Int32) (μ : wm_M) (Q : Option Value → wm_M → Prop) (h : (vp_in x3 6 ∧ wm_OkI 0 53 [.ref 1, .int x3, .int x5] μ (fun r2 μ1 => wm_Wp 0 36 85 [.ref 75, .long (x1 + (((μ.1 78 (x3).toNatClampNeg)).toInt64 * (r2).toInt64)), .null, .int x3, .null, .null] μ1 Q))) : wm_Wp 0 36 63 [.ref 75, .long x1, .null, .int x3, .null, .int x5] μ Q := wm_vc mo_36 (rt := some .long) (by decide +kernel) mc_36 126 h
-- WindBoat$Choices.places()J, the place 85
set_option maxRecDepth 100000 in
set_option maxHeartbeats 8000000 in
theorem f_36_85 (x1 : Int64) (x3 : Int32) (μ : wm_M) (Q : Option Value → wm_M → Prop) (h : wm_Wp 0 36 4 [.ref 75, .long x1, .null, .int (x3 + (1 : Int32)), .null, .null] μ Q) : wm_Wp 0 36 85 [.ref 75, .long x1, .null, .int x3, .null, .null] μ Q := wm_vc mo_36 (rt := some .long) (by decide +kernel) mc_36 126 h
-- WindBoat$Choices.places()J, the place 91
set_option maxRecDepth 100000 in
set_option maxHeartbeats 8000000 in
theorem f_36_91 (x1 : Int64) (μ : wm_M) (Q : Option Value → wm_M → Prop) (h : Q (some (.long x1)) μ) : wm_Wp 0 36 91 [.null, .long x1, .null, .null, .null, .null] μ Q := wm_vc mo_36 (rt := some .long) (by decide +kernel) mc_36 126 h
-- WindBoat$Game.sureOf(I)I
set_option maxRecDepth 100000 in
set_option maxHeartbeats 8000000 in
theorem f_38 (a1 : Int32) (μ : wm_M) (Q : Option Value → wm_M → Prop) (h : wm_Wp 0 38 5 [.ref 86, .null, .null, .null] (wm_si μ 86 2 a1) Q) : wm_Ok 0 38 [.ref 86, .int a1] μ Q := wm_ent (nL := 4) (l := [.ref 86, .int a1, .null, .null]) (by decide +kernel) (by decide +kernel) (by decide +kernel) rfl rfl (wm_vc mo_38 (rt := some .int) (by decide +kernel) mc_38 102 h)
-- WindBoat$Game.sureOf(I)I, the place 5
set_option maxRecDepth 100000 in
set_option maxHeartbeats 8000000 in
theorem f_38_5 (μ : wm_M) (Q : Option Value → wm_M → Prop) (h : wm_Wp 0 38 12 [.ref 86, .null, .null, .null] (wm_sl μ 86 3 (-1000000 : Int64)) Q) : wm_Wp 0 38 5 [.ref 86, .null, .null, .null] μ Q := wm_vc mo_38 (rt := some .int) (by decide +kernel) mc_38 102 h
-- WindBoat$Game.sureOf(I)I, the place 12
set_option maxRecDepth 100000 in
set_option maxHeartbeats 8000000 in
theorem f_38_12 (μ : wm_M) (Q : Option Value → wm_M → Prop) (h : wm_Wp 0 38 14 [.ref 86, .null, .int (0 : Int32), .null] μ Q) : wm_Wp 0 38 12 [.ref 86, .null, .null, .null] μ Q := wm_vc mo_38 (rt := some .int) (by decide +kernel) mc_38 102 h
-- WindBoat$Game.sureOf(I)I, the place 14
set_option maxRecDepth 100000 in
set_option maxHeartbeats 8000000 in
theorem f_38_14 (x2 : Int32) (μ : wm_M) (Q : Option Value → wm_M → Prop) (h : (((μ.1 86 2) ≤ x2 → wm_Wp 0 38 55 [.ref 86, .null, .null, .null] μ Q) ∧ (¬ (μ.1 86 2) ≤ x2 → wm_OkV 0 41 [.ref 86, .int x2, .long (1 : Int64), .int x2, .long (0 : Int64)] μ (fun μ1 => wm_Wp 0 38 30 [.ref 86, .null, .int x2, .null] μ1 Q)))) : wm_Wp 0 38 14 [.ref 86, .null, .int x2, .null] μ Q := wm_vc mo_38 (rt := some .int) (by decide +kernel) mc_38 102 h
-- WindBoat$Game.sureOf(I)I, the place 30
set_option maxRecDepth 100000 in
set_option maxHeartbeats 8000000 in
theorem f_38_30 (x2 : Int32) (μ : wm_M) (Q : Option Value → wm_M → Prop) (h : wm_Wp 0 38 32 [.ref 86, .null, .int x2, .int (0 : Int32)] μ Q) : wm_Wp 0 38 30 [.ref 86, .null, .int x2, .null] μ Q := wm_vc mo_38 (rt := some .int) (by decide +kernel) mc_38 102 h
-- WindBoat$Game.sureOf(I)I, the place 32
set_option maxRecDepth 100000 in
set_option maxHeartbeats 8000000 in
theorem f_38_32 (x2 : Int32) (x3 : Int32) (μ : wm_M) (Q : Option Value → wm_M → Prop) (h : ((x2 ≤ x3 → wm_Wp 0 38 49 [.ref 86, .null, .int x2, .null] μ Q) ∧ (¬ x2 ≤ x3 → wm_OkV 0 40 [.ref 86, .int x2, .int x3] μ (fun μ1 => wm_Wp 0 38 43 [.ref 86, .null, .int x2, .int x3] μ1 Q)))) : wm_Wp 0 38 32 [.ref 86, .null, .int x2, .int x3] μ Q := wm_vc mo_38 (rt := some .int) (by decide +kernel) mc_38 102 h
-- WindBoat$Game.sureOf(I)I, the place 43
set_option maxRecDepth 100000 in
set_option maxHeartbeats 8000000 in
theorem f_38_43 (x2 : Int32) (x3 : Int32) (μ : wm_M) (Q : Option Value → wm_M → Prop) (h : wm_Wp 0 38 32 [.ref 86, .null, .int x2, .int (x3 + (1 : Int32))] μ Q) : wm_Wp 0 38 43 [.ref 86, .null, .int x2, .int x3] μ Q := wm_vc mo_38 (rt := some .int) (by decide +kernel) mc_38 102 h
-- WindBoat$Game.sureOf(I)I, the place 49
set_option maxRecDepth 100000 in
set_option maxHeartbeats 8000000 in
theorem f_38_49 (x2 : Int32) (μ : wm_M) (Q : Option Value → wm_M → Prop) (h : wm_Wp 0 38 14 [.ref 86, .null, .int (x2 + (1 : Int32)), .null] μ Q) : wm_Wp 0 38 49 [.ref 86, .null, .int x2, .null] μ Q := wm_vc mo_38 (rt := some .int) (by decide +kernel) mc_38 102 h
-- WindBoat$Game.sureOf(I)I, the place 55
set_option maxRecDepth 100000 in
set_option maxHeartbeats 8000000 in
theorem f_38_55 (μ : wm_M) (Q : Option Value → wm_M → Prop) (h : (((μ.1 86 2) = (3 : Int32) → wm_OkV 0 42 [.ref 86] μ (fun μ1 => wm_Wp 0 38 67 [.ref 86, .null, .null, .null] μ1 Q)) ∧ (¬ (μ.1 86 2) = (3 : Int32) → wm_Wp 0 38 67 [.ref 86, .null, .null, .null] μ Q))) : wm_Wp 0 38 55 [.ref 86, .null, .null, .null] μ Q := wm_vc mo_38 (rt := some .int) (by decide +kernel) mc_38 102 h
-- WindBoat$Game.sureOf(I)I, the place 67
set_option maxRecDepth 100000 in
set_option maxHeartbeats 8000000 in
theorem f_38_67 (μ : wm_M) (Q : Option Value → wm_M → Prop) (h : Q (some (.int ((μ.2 86 3)).toInt32)) μ) : wm_Wp 0 38 67 [.ref 86, .null, .null, .null] μ Q := wm_vc mo_38 (rt := some .int) (by decide +kernel) mc_38 102 h
-- WindBoat$Game.pay(II)I
set_option maxRecDepth 100000 in
set_option maxHeartbeats 8000000 in
theorem f_39 (a1 : Int32) (a2 : Int32) (μ : wm_M) (Q : Option Value → wm_M → Prop) (h : (vp_in ((a1 * (μ.1 86 2)) + a2) 12 ∧ Q (some (.int (μ.1 85 (((a1 * (μ.1 86 2)) + a2)).toNatClampNeg))) μ)) : wm_Ok 0 39 [.ref 86, .int a1, .int a2] μ Q := wm_ent (nL := 3) (l := [.ref 86, .int a1, .int a2]) (by decide +kernel) (by decide +kernel) (by decide +kernel) rfl rfl (wm_vc mo_39 (rt := some .int) (by decide +kernel) mc_39 40 h)
-- WindBoat$Game.tryTwoRows(II)V
set_option maxRecDepth 100000 in
set_option maxHeartbeats 8000000 in
theorem f_40 (a1 : Int32) (a2 : Int32) (μ : wm_M) (Q : Option Value → wm_M → Prop) (h : wm_Wp 0 40 2 [.ref 86, .int a1, .int a2, .int (0 : Int32), .null] μ Q) : wm_Ok 0 40 [.ref 86, .int a1, .int a2] μ Q := wm_ent (nL := 5) (l := [.ref 86, .int a1, .int a2, .null, .null]) (by decide +kernel) (by decide +kernel) (by decide +kernel) rfl rfl (wm_vc mo_40 (rt := none) (by decide +kernel) mc_40 100 h)
-- WindBoat$Game.tryTwoRows(II)V, the place 2
set_option maxRecDepth 100000 in
set_option maxHeartbeats 8000000 in
theorem f_40_2 (x1 : Int32) (x2 : Int32) (x3 : Int32) (μ : wm_M) (Q : Option Value → wm_M → Prop) (h : (((μ.1 86 2) ≤ x3 → wm_Wp 0 40 67 [.null, .null, .null, .null, .null] μ Q) ∧ (¬ (μ.1 86 2) ≤ x3 → wm_Wp 0 40 13 [.ref 86, .int x1, .int x2, .int x3, .int (0 : Int32)] μ Q))) : wm_Wp 0 40 2 [.ref 86, .int x1, .int x2, .int x3, .null] μ Q := wm_vc mo_40 (rt := none) (by decide +kernel) mc_40 100 h
-- WindBoat$Game.tryTwoRows(II)V, the place 13
set_option maxRecDepth 100000 in
set_option maxHeartbeats 8000000 in
theorem f_40_13 (x1 : Int32) (x2 : Int32) (x3 : Int32) (x4 : Int32) (μ : wm_M) (Q : Option Value → wm_M → Prop) (h : ((x3 ≤ x4 → wm_Wp 0 40 61 [.ref 86, .int x1, .int x2, .int x3, .null] μ Q) ∧ (¬ x3 ≤ x4 → wm_OkI 0 39 [.ref 86, .int x2, .int x4] μ (fun r2 μ1 => wm_OkI 0 39 [.ref 86, .int x2, .int x3] μ1 (fun r4 μ3 => wm_OkI 0 39 [.ref 86, .int x1, .int x3] μ3 (fun r6 μ5 => wm_OkI 0 39 [.ref 86, .int x1, .int x4] μ5 (fun r8 μ7 => wm_OkV 0 41 [.ref 86, .int x1, .long ((r2 - r4)).toInt64, .int x2, .long ((r6 - r8)).toInt64] μ7 (fun μ9 => wm_Wp 0 40 55 [.ref 86, .int x1, .int x2, .int x3, .int x4] μ9 Q)))))))) : wm_Wp 0 40 13 [.ref 86, .int x1, .int x2, .int x3, .int x4] μ Q := wm_vc mo_40 (rt := none) (by decide +kernel) mc_40 100 h
-- WindBoat$Game.tryTwoRows(II)V, the place 55
set_option maxRecDepth 100000 in
set_option maxHeartbeats 8000000 in
theorem f_40_55 (x1 : Int32) (x2 : Int32) (x3 : Int32) (x4 : Int32) (μ : wm_M) (Q : Option Value → wm_M → Prop) (h : wm_Wp 0 40 13 [.ref 86, .int x1, .int x2, .int x3, .int (x4 + (1 : Int32))] μ Q) : wm_Wp 0 40 55 [.ref 86, .int x1, .int x2, .int x3, .int x4] μ Q := wm_vc mo_40 (rt := none) (by decide +kernel) mc_40 100 h
-- WindBoat$Game.tryTwoRows(II)V, the place 61
set_option maxRecDepth 100000 in
set_option maxHeartbeats 8000000 in
theorem f_40_61 (x1 : Int32) (x2 : Int32) (x3 : Int32) (μ : wm_M) (Q : Option Value → wm_M → Prop) (h : wm_Wp 0 40 2 [.ref 86, .int x1, .int x2, .int (x3 + (1 : Int32)), .null] μ Q) : wm_Wp 0 40 61 [.ref 86, .int x1, .int x2, .int x3, .null] μ Q := wm_vc mo_40 (rt := none) (by decide +kernel) mc_40 100 h
-- WindBoat$Game.tryTwoRows(II)V, the place 67
set_option maxRecDepth 100000 in
set_option maxHeartbeats 8000000 in
theorem f_40_67 (μ : wm_M) (Q : Option Value → wm_M → Prop) (h : Q none μ) : wm_Wp 0 40 67 [.null, .null, .null, .null, .null] μ Q := wm_vc mo_40 (rt := none) (by decide +kernel) mc_40 100 h
-- WindBoat$Game.mixOf(IJIJ)V
set_option maxRecDepth 100000 in
set_option maxHeartbeats 8000000 in
theorem f_41 (a1 : Int32) (a2 : Int64) (a4 : Int32) (a5 : Int64) (μ : wm_M) (Q : Option Value → wm_M → Prop) (h : wm_OkV 0 342 [.ref 87, .long (0 : Int64)] μ (fun μ1 => wm_Wp 0 41 8 [.ref 86, .int a1, .long a2, .null, .int a4, .long a5, .null] μ1 Q)) : wm_Ok 0 41 [.ref 86, .int a1, .long a2, .int a4, .long a5] μ Q := wm_ent (nL := 7) (l := [.ref 86, .int a1, .long a2, .null, .int a4, .long a5, .null]) (by decide +kernel) (by decide +kernel) (by decide +kernel) rfl rfl (wm_vc mo_41 (rt := none) (by decide +kernel) mc_41 54 h)
-- WindBoat$Game.mixOf(IJIJ)V, the place 8
set_option maxRecDepth 100000 in
set_option maxHeartbeats 8000000 in
theorem f_41_8 (x1 : Int32) (x2 : Int64) (x4 : Int32) (x5 : Int64) (μ : wm_M) (Q : Option Value → wm_M → Prop) (h : (vp_in x4 3 ∧ wm_Wp 0 41 17 [.ref 86, .int x1, .long x2, .null, .null, .null, .null] (wm_sl μ 87 (x4).toNatClampNeg x5) Q)) : wm_Wp 0 41 8 [.ref 86, .int x1, .long x2, .null, .int x4, .long x5, .null] μ Q := wm_vc mo_41 (rt := none) (by decide +kernel) mc_41 54 h
-- WindBoat$Game.mixOf(IJIJ)V, the place 17
set_option maxRecDepth 100000 in
set_option maxHeartbeats 8000000 in
theorem f_41_17 (x1 : Int32) (x2 : Int64) (μ : wm_M) (Q : Option Value → wm_M → Prop) (h : (vp_in x1 3 ∧ wm_Wp 0 41 24 [.ref 86, .null, .null, .null, .null, .null, .null] (wm_sl μ 87 (x1).toNatClampNeg x2) Q)) : wm_Wp 0 41 17 [.ref 86, .int x1, .long x2, .null, .null, .null, .null] μ Q := wm_vc mo_41 (rt := none) (by decide +kernel) mc_41 54 h
-- WindBoat$Game.mixOf(IJIJ)V, the place 24
set_option maxRecDepth 100000 in
set_option maxHeartbeats 8000000 in
theorem f_41_24 (μ : wm_M) (Q : Option Value → wm_M → Prop) (h : wm_OkV 0 44 [.ref 86] μ (fun μ1 => wm_Wp 0 41 28 [.null, .null, .null, .null, .null, .null, .null] μ1 Q)) : wm_Wp 0 41 24 [.ref 86, .null, .null, .null, .null, .null, .null] μ Q := wm_vc mo_41 (rt := none) (by decide +kernel) mc_41 54 h
-- WindBoat$Game.mixOf(IJIJ)V, the place 28
set_option maxRecDepth 100000 in
set_option maxHeartbeats 8000000 in
theorem f_41_28 (μ : wm_M) (Q : Option Value → wm_M → Prop) (h : Q none μ) : wm_Wp 0 41 28 [.null, .null, .null, .null, .null, .null, .null] μ Q := wm_vc mo_41 (rt := none) (by decide +kernel) mc_41 54 h
-- WindBoat$Game.tryThreeRows()V
set_option maxRecDepth 100000 in
set_option maxHeartbeats 8000000 in
theorem f_42 (μ : wm_M) (Q : Option Value → wm_M → Prop) (h : wm_Wp 0 42 2 [.ref 86, .int (0 : Int32), .null] μ Q) : wm_Ok 0 42 [.ref 86] μ Q := wm_ent (nL := 3) (l := [.ref 86, .null, .null]) (by decide +kernel) (by decide +kernel) (by decide +kernel) rfl rfl (wm_vc mo_42 (rt := none) (by decide +kernel) mc_42 86 h)
-- WindBoat$Game.tryThreeRows()V, the place 2
set_option maxRecDepth 100000 in
set_option maxHeartbeats 8000000 in
theorem f_42_2 (x1 : Int32) (μ : wm_M) (Q : Option Value → wm_M → Prop) (h : (((3 : Int32) ≤ x1 → wm_Wp 0 42 48 [.ref 86, .null, .null] μ Q) ∧ (¬ (3 : Int32) ≤ x1 → (vp_in x1 3 ∧ wm_Wp 0 42 14 [.ref 86, .int x1, .null] (wm_sl μ 87 (x1).toNatClampNeg (0 : Int64)) Q)))) : wm_Wp 0 42 2 [.ref 86, .int x1, .null] μ Q := wm_vc mo_42 (rt := none) (by decide +kernel) mc_42 86 h
-- WindBoat$Game.tryThreeRows()V, the place 14
set_option maxRecDepth 100000 in
set_option maxHeartbeats 8000000 in
theorem f_42_14 (x1 : Int32) (μ : wm_M) (Q : Option Value → wm_M → Prop) (h : wm_Wp 0 42 16 [.ref 86, .int x1, .int (0 : Int32)] μ Q) : wm_Wp 0 42 14 [.ref 86, .int x1, .null] μ Q := wm_vc mo_42 (rt := none) (by decide +kernel) mc_42 86 h
-- WindBoat$Game.tryThreeRows()V, the place 16
set_option maxRecDepth 100000 in
set_option maxHeartbeats 8000000 in
theorem f_42_16 (x1 : Int32) (x2 : Int32) (μ : wm_M) (Q : Option Value → wm_M → Prop) (h : (((3 : Int32) ≤ x2 → wm_Wp 0 42 42 [.ref 86, .int x1, .null] μ Q) ∧ (¬ (3 : Int32) ≤ x2 → (vp_in x1 3 ∧ wm_OkJ 0 43 [.ref 86, .int x1, .int x2] μ (fun r2 μ1 => (vp_in x1 3 ∧ wm_Wp 0 42 36 [.ref 86, .int x1, .int x2] (wm_sl μ1 87 (x1).toNatClampNeg ((μ.2 87 (x1).toNatClampNeg) + r2)) Q)))))) : wm_Wp 0 42 16 [.ref 86, .int x1, .int x2] μ Q := wm_vc mo_42 (rt := none) (by decide +kernel) mc_42 86 h
-- WindBoat$Game.tryThreeRows()V, the place 36
set_option maxRecDepth 100000 in
set_option maxHeartbeats 8000000 in
theorem f_42_36 (x1 : Int32) (x2 : Int32) (μ : wm_M) (Q : Option Value → wm_M → Prop) (h : wm_Wp 0 42 16 [.ref 86, .int x1, .int (x2 + (1 : Int32))] μ Q) : wm_Wp 0 42 36 [.ref 86, .int x1, .int x2] μ Q := wm_vc mo_42 (rt := none) (by decide +kernel) mc_42 86 h
-- WindBoat$Game.tryThreeRows()V, the place 42
set_option maxRecDepth 100000 in
set_option maxHeartbeats 8000000 in
theorem f_42_42 (x1 : Int32) (μ : wm_M) (Q : Option Value → wm_M → Prop) (h : wm_Wp 0 42 2 [.ref 86, .int (x1 + (1 : Int32)), .null] μ Q) : wm_Wp 0 42 42 [.ref 86, .int x1, .null] μ Q := wm_vc mo_42 (rt := none) (by decide +kernel) mc_42 86 h
-- WindBoat$Game.tryThreeRows()V, the place 48
set_option maxRecDepth 100000 in
set_option maxHeartbeats 8000000 in
theorem f_42_48 (μ : wm_M) (Q : Option Value → wm_M → Prop) (h : wm_OkV 0 44 [.ref 86] μ (fun μ1 => wm_Wp 0 42 52 [.null, .null, .null] μ1 Q)) : wm_Wp 0 42 48 [.ref 86, .null, .null] μ Q := wm_vc mo_42 (rt := none) (by decide +kernel) mc_42 86 h
-- WindBoat$Game.tryThreeRows()V, the place 52
set_option maxRecDepth 100000 in
set_option maxHeartbeats 8000000 in
theorem f_42_52 (μ : wm_M) (Q : Option Value → wm_M → Prop) (h : Q none μ) : wm_Wp 0 42 52 [.null, .null, .null] μ Q := wm_vc mo_42 (rt := none) (by decide +kernel) mc_42 86 h
-- WindBoat$Game.without(II)J
set_option maxRecDepth 100000 in
set_option maxHeartbeats 8000000 in
theorem f_43 (a1 : Int32) (a2 : Int32) (μ : wm_M) (Q : Option Value → wm_M → Prop) (h : (¬ (3 : Int32) = 0 ∧ (¬ (3 : Int32) = 0 ∧ wm_Wp 0 43 13 [.ref 86, .null, .int a2, .int ((a1 + (1 : Int32)) - (a1 + (1 : Int32)) / (3 : Int32) * (3 : Int32)), .int ((a1 + (2 : Int32)) - (a1 + (2 : Int32)) / (3 : Int32) * (3 : Int32)), .null, .null] μ Q))) : wm_Ok 0 43 [.ref 86, .int a1, .int a2] μ Q := wm_ent (nL := 7) (l := [.ref 86, .int a1, .int a2, .null, .null, .null, .null]) (by decide +kernel) (by decide +kernel) (by decide +kernel) rfl rfl (wm_vc mo_43 (rt := some .long) (by decide +kernel) mc_43 116 h)
-- WindBoat$Game.without(II)J, the place 13
set_option maxRecDepth 100000 in
set_option maxHeartbeats 8000000 in
theorem f_43_13 (x2 : Int32) (x3 : Int32) (x4 : Int32) (μ : wm_M) (Q : Option Value → wm_M → Prop) (h : (¬ (3 : Int32) = 0 ∧ (¬ (3 : Int32) = 0 ∧ wm_Wp 0 43 27 [.ref 86, .null, .null, .int x3, .int x4, .int ((x2 + (1 : Int32)) - (x2 + (1 : Int32)) / (3 : Int32) * (3 : Int32)), .int ((x2 + (2 : Int32)) - (x2 + (2 : Int32)) / (3 : Int32) * (3 : Int32))] μ Q))) : wm_Wp 0 43 13 [.ref 86, .null, .int x2, .int x3, .int x4, .null, .null] μ Q := wm_vc mo_43 (rt := some .long) (by decide +kernel) mc_43 116 h
-- WindBoat$Game.without(II)J, the place 27
set_option maxRecDepth 100000 in
set_option maxHeartbeats 8000000 in
theorem f_43_27 (x3 : Int32) (x4 : Int32) (x5 : Int32) (x6 : Int32) (μ : wm_M) (Q : Option Value → wm_M → Prop) (h : wm_OkI 0 39 [.ref 86, .int x3, .int x5] μ (fun r2 μ1 => wm_OkI 0 39 [.ref 86, .int x4, .int x6] μ1 (fun r4 μ3 => wm_OkI 0 39 [.ref 86, .int x3, .int x6] μ3 (fun r6 μ5 => wm_OkI 0 39 [.ref 86, .int x4, .int x5] μ5 (fun r8 μ7 => Q (some (.long (((r2).toInt64 * (r4).toInt64) - ((r6).toInt64 * (r8).toInt64)))) μ7))))) : wm_Wp 0 43 27 [.ref 86, .null, .null, .int x3, .int x4, .int x5, .int x6] μ Q := wm_vc mo_43 (rt := some .long) (by decide +kernel) mc_43 116 h
-- WindBoat$Game.tryMix()V
set_option maxRecDepth 100000 in
set_option maxHeartbeats 8000000 in
theorem f_44 (μ : wm_M) (Q : Option Value → wm_M → Prop) (h : (vp_in (0 : Int32) 3 ∧ (vp_in (1 : Int32) 3 ∧ (vp_in (2 : Int32) 3 ∧ wm_Wp 0 44 21 [.ref 86, .long (((μ.2 87 ((0 : Int32)).toNatClampNeg) + (μ.2 87 ((1 : Int32)).toNatClampNeg)) + (μ.2 87 ((2 : Int32)).toNatClampNeg)), .null, .null, .null, .null, .null, .null, .null, .null] μ Q)))) : wm_Ok 0 44 [.ref 86] μ Q := wm_ent (nL := 10) (l := [.ref 86, .null, .null, .null, .null, .null, .null, .null, .null, .null]) (by decide +kernel) (by decide +kernel) (by decide +kernel) rfl rfl (wm_vc mo_44 (rt := none) (by decide +kernel) mc_44 252 h)
-- WindBoat$Game.tryMix()V, the place 21
set_option maxRecDepth 100000 in
set_option maxHeartbeats 8000000 in
theorem f_44_21 (x1 : Int64) (μ : wm_M) (Q : Option Value → wm_M → Prop) (h : (((0 : Int32) ≤ (lg_cmp x1 (0 : Int64)) → wm_Wp 0 44 31 [.ref 86, .long x1, .null, .null, .null, .null, .null, .null, .null, .null] μ Q) ∧ (¬ (0 : Int32) ≤ (lg_cmp x1 (0 : Int64)) → (((lg_cmp x1 (0 : Int64)) = (0 : Int32) → wm_Wp 0 44 81 [.null, .null, .null, .null, .null, .null, .null, .null, .null, .null] μ Q) ∧ (¬ (lg_cmp x1 (0 : Int64)) = (0 : Int32) → (vp_in (0 : Int32) 3 ∧ (((lg_cmp (((-1 : Int32)).toInt64 * (μ.2 87 ((0 : Int32)).toNatClampNeg)) (0 : Int64)) < (0 : Int32) → wm_Wp 0 44 81 [.null, .null, .null, .null, .null, .null, .null, .null, .null, .null] μ Q) ∧ (¬ (lg_cmp (((-1 : Int32)).toInt64 * (μ.2 87 ((0 : Int32)).toNatClampNeg)) (0 : Int64)) < (0 : Int32) → wm_Wp 0 44 53 [.ref 86, .long x1, .null, .int (-1 : Int32), .null, .null, .null, .null, .null, .null] μ Q)))))))) : wm_Wp 0 44 21 [.ref 86, .long x1, .null, .null, .null, .null, .null, .null, .null, .null] μ Q := wm_vc mo_44 (rt := none) (by decide +kernel) mc_44 252 h
-- WindBoat$Game.tryMix()V, the place 31
set_option maxRecDepth 100000 in
set_option maxHeartbeats 8000000 in
theorem f_44_31 (x1 : Int64) (μ : wm_M) (Q : Option Value → wm_M → Prop) (h : (((lg_cmp x1 (0 : Int64)) = (0 : Int32) → wm_Wp 0 44 81 [.null, .null, .null, .null, .null, .null, .null, .null, .null, .null] μ Q) ∧ (¬ (lg_cmp x1 (0 : Int64)) = (0 : Int32) → (vp_in (0 : Int32) 3 ∧ (((lg_cmp (((1 : Int32)).toInt64 * (μ.2 87 ((0 : Int32)).toNatClampNeg)) (0 : Int64)) < (0 : Int32) → wm_Wp 0 44 81 [.null, .null, .null, .null, .null, .null, .null, .null, .null, .null] μ Q) ∧ (¬ (lg_cmp (((1 : Int32)).toInt64 * (μ.2 87 ((0 : Int32)).toNatClampNeg)) (0 : Int64)) < (0 : Int32) → wm_Wp 0 44 53 [.ref 86, .long x1, .null, .int (1 : Int32), .null, .null, .null, .null, .null, .null] μ Q)))))) : wm_Wp 0 44 31 [.ref 86, .long x1, .null, .null, .null, .null, .null, .null, .null, .null] μ Q := wm_vc mo_44 (rt := none) (by decide +kernel) mc_44 252 h
-- WindBoat$Game.tryMix()V, the place 53
set_option maxRecDepth 100000 in
set_option maxHeartbeats 8000000 in
theorem f_44_53 (x1 : Int64) (x3 : Int32) (μ : wm_M) (Q : Option Value → wm_M → Prop) (h : (vp_in (1 : Int32) 3 ∧ (((lg_cmp ((x3).toInt64 * (μ.2 87 ((1 : Int32)).toNatClampNeg)) (0 : Int64)) < (0 : Int32) → wm_Wp 0 44 81 [.null, .null, .null, .null, .null, .null, .null, .null, .null, .null] μ Q) ∧ (¬ (lg_cmp ((x3).toInt64 * (μ.2 87 ((1 : Int32)).toNatClampNeg)) (0 : Int64)) < (0 : Int32) → (vp_in (2 : Int32) 3 ∧ (((0 : Int32) ≤ (lg_cmp ((x3).toInt64 * (μ.2 87 ((2 : Int32)).toNatClampNeg)) (0 : Int64)) → wm_Wp 0 44 82 [.ref 86, .long x1, .null, .int x3, .null, .null, .null, .null, .null, .null] μ Q) ∧ (¬ (0 : Int32) ≤ (lg_cmp ((x3).toInt64 * (μ.2 87 ((2 : Int32)).toNatClampNeg)) (0 : Int64)) → wm_Wp 0 44 81 [.null, .null, .null, .null, .null, .null, .null, .null, .null, .null] μ Q))))))) : wm_Wp 0 44 53 [.ref 86, .long x1, .null, .int x3, .null, .null, .null, .null, .null, .null] μ Q := wm_vc mo_44 (rt := none) (by decide +kernel) mc_44 252 h
-- WindBoat$Game.tryMix()V, the place 81
set_option maxRecDepth 100000 in
set_option maxHeartbeats 8000000 in
theorem f_44_81 (μ : wm_M) (Q : Option Value → wm_M → Prop) (h : Q none μ) : wm_Wp 0 44 81 [.null, .null, .null, .null, .null, .null, .null, .null, .null, .null] μ Q := wm_vc mo_44 (rt := none) (by decide +kernel) mc_44 252 h
-- WindBoat$Game.tryMix()V, the place 82
set_option maxRecDepth 100000 in
set_option maxHeartbeats 8000000 in
theorem f_44_82 (x1 : Int64) (x3 : Int32) (μ : wm_M) (Q : Option Value → wm_M → Prop) (h : wm_Wp 0 44 88 [.ref 86, .long x1, .null, .int x3, .long (0 : Int64), .null, .int (0 : Int32), .null, .null, .null] μ Q) : wm_Wp 0 44 82 [.ref 86, .long x1, .null, .int x3, .null, .null, .null, .null, .null, .null] μ Q := wm_vc mo_44 (rt := none) (by decide +kernel) mc_44 252 h
-- WindBoat$Game.tryMix()V, the place 88
set_option maxRecDepth 100000 in
set_option maxHeartbeats 8000000 in
theorem f_44_88 (x1 : Int64) (x3 : Int32) (x4 : Int64) (x6 : Int32) (μ : wm_M) (Q : Option Value → wm_M → Prop) (h : (((μ.1 86 2) ≤ x6 → wm_Wp 0 44 168 [.ref 86, .long x1, .null, .int x3, .long x4, .null, .null, .null, .null, .null] μ Q) ∧ (¬ (μ.1 86 2) ≤ x6 → wm_Wp 0 44 103 [.ref 86, .long x1, .null, .int x3, .long x4, .null, .int x6, .long (0 : Int64), .null, .int (0 : Int32)] μ Q))) : wm_Wp 0 44 88 [.ref 86, .long x1, .null, .int x3, .long x4, .null, .int x6, .null, .null, .null] μ Q := wm_vc mo_44 (rt := none) (by decide +kernel) mc_44 252 h
-- WindBoat$Game.tryMix()V, the place 103
set_option maxRecDepth 100000 in
set_option maxHeartbeats 8000000 in
theorem f_44_103 (x1 : Int64) (x3 : Int32) (x4 : Int64) (x6 : Int32) (x7 : Int64) (x9 : Int32) (μ : wm_M) (Q : Option Value → wm_M → Prop) (h : (((μ.1 86 2) ≤ x9 → wm_Wp 0 44 143 [.ref 86, .long x1, .null, .int x3, .long x4, .null, .int x6, .long x7, .null, .null] μ Q) ∧ (¬ (μ.1 86 2) ≤ x9 → (vp_in x9 3 ∧ wm_OkI 0 39 [.ref 86, .int x9, .int x6] μ (fun r2 μ1 => wm_Wp 0 44 137 [.ref 86, .long x1, .null, .int x3, .long x4, .null, .int x6, .long (x7 + (((x3).toInt64 * (μ.2 87 (x9).toNatClampNeg)) * (r2).toInt64)), .null, .int x9] μ1 Q))))) : wm_Wp 0 44 103 [.ref 86, .long x1, .null, .int x3, .long x4, .null, .int x6, .long x7, .null, .int x9] μ Q := wm_vc mo_44 (rt := none) (by decide +kernel) mc_44 252 h
-- WindBoat$Game.tryMix()V, the place 137
set_option maxRecDepth 100000 in
set_option maxHeartbeats 8000000 in
theorem f_44_137 (x1 : Int64) (x3 : Int32) (x4 : Int64) (x6 : Int32) (x7 : Int64) (x9 : Int32) (μ : wm_M) (Q : Option Value → wm_M → Prop) (h : wm_Wp 0 44 103 [.ref 86, .long x1, .null, .int x3, .long x4, .null, .int x6, .long x7, .null, .int (x9 + (1 : Int32))] μ Q) : wm_Wp 0 44 137 [.ref 86, .long x1, .null, .int x3, .long x4, .null, .int x6, .long x7, .null, .int x9] μ Q := wm_vc mo_44 (rt := none) (by decide +kernel) mc_44 252 h
-- WindBoat$Game.tryMix()V, the place 143
set_option maxRecDepth 100000 in
set_option maxHeartbeats 8000000 in
theorem f_44_143 (x1 : Int64) (x3 : Int32) (x4 : Int64) (x6 : Int32) (x7 : Int64) (μ : wm_M) (Q : Option Value → wm_M → Prop) (h : ((x6 = (0 : Int32) → wm_Wp 0 44 88 [.ref 86, .long x1, .null, .int x3, .long x7, .null, .int (x6 + (1 : Int32)), .null, .null, .null] μ Q) ∧ (¬ x6 = (0 : Int32) → wm_Wp 0 44 153 [.ref 86, .long x1, .null, .int x3, .long x4, .null, .int x6, .long x7, .null, .null] μ Q))) : wm_Wp 0 44 143 [.ref 86, .long x1, .null, .int x3, .long x4, .null, .int x6, .long x7, .null, .null] μ Q := wm_vc mo_44 (rt := none) (by decide +kernel) mc_44 252 h
-- WindBoat$Game.tryMix()V, the place 153
set_option maxRecDepth 100000 in
set_option maxHeartbeats 8000000 in
theorem f_44_153 (x1 : Int64) (x3 : Int32) (x4 : Int64) (x6 : Int32) (x7 : Int64) (μ : wm_M) (Q : Option Value → wm_M → Prop) (h : wm_Wp 0 44 88 [.ref 86, .long x1, .null, .int x3, .long (if x7 < x4 then x7 else x4), .null, .int (x6 + (1 : Int32)), .null, .null, .null] μ Q) : wm_Wp 0 44 153 [.ref 86, .long x1, .null, .int x3, .long x4, .null, .int x6, .long x7, .null, .null] μ Q := wm_vc mo_44 (rt := none) (by decide +kernel) mc_44 252 h
-- WindBoat$Game.tryMix()V, the place 168
set_option maxRecDepth 100000 in
set_option maxHeartbeats 8000000 in
theorem f_44_168 (x1 : Int64) (x3 : Int32) (x4 : Int64) (μ : wm_M) (Q : Option Value → wm_M → Prop) (h : wm_OkJ 0 315 [.long ((1000 : Int64) * x4), .long ((x3).toInt64 * x1)] μ (fun r2 μ1 => wm_Wp 0 44 192 [.null, .null, .null, .null, .null, .null, .null, .null, .null, .null] (wm_sl μ1 86 3 (if r2 < (μ.2 86 3) then (μ.2 86 3) else r2)) Q)) : wm_Wp 0 44 168 [.ref 86, .long x1, .null, .int x3, .long x4, .null, .null, .null, .null, .null] μ Q := wm_vc mo_44 (rt := none) (by decide +kernel) mc_44 252 h
-- WindBoat$Game.tryMix()V, the place 192
set_option maxRecDepth 100000 in
set_option maxHeartbeats 8000000 in
theorem f_44_192 (μ : wm_M) (Q : Option Value → wm_M → Prop) (h : Q none μ) : wm_Wp 0 44 192 [.null, .null, .null, .null, .null, .null, .null, .null, .null, .null] μ Q := wm_vc mo_44 (rt := none) (by decide +kernel) mc_44 252 h
-- WindBoat$Log.take(LWindBoat$Log;)V
set_option maxRecDepth 100000 in
set_option maxHeartbeats 8000000 in
theorem f_46b (μ : wm_M) (Q : Option Value → wm_M → Prop) (h : wm_OkV 0 68 [.ref 2, .ref 31] μ (fun μ1 => wm_Wp 0 46 11 [.ref 1, .ref 30] μ1 Q)) : wm_Ok 0 46 [.ref 1, .ref 30] μ Q := wm_ent (nL := 2) (l := [.ref 1, .ref 30]) (by decide +kernel) (by decide +kernel) (by decide +kernel) rfl rfl (wm_vc mo_46 (rt := none) (by decide +kernel) mc_46 126 h)
-- WindBoat$Log.take(LWindBoat$Log;)V, the place 11
set_option maxRecDepth 100000 in
set_option maxHeartbeats 8000000 in
theorem f_46_11b (μ : wm_M) (Q : Option Value → wm_M → Prop) (h : wm_OkV 0 83 [.ref 7, .ref 36] μ (fun μ1 => wm_Wp 0 46 22 [.ref 1, .ref 30] μ1 Q)) : wm_Wp 0 46 11 [.ref 1, .ref 30] μ Q := wm_vc mo_46 (rt := none) (by decide +kernel) mc_46 126 h
-- WindBoat$Log.take(LWindBoat$Log;)V, the place 22
set_option maxRecDepth 100000 in
set_option maxHeartbeats 8000000 in
theorem f_46_22b (μ : wm_M) (Q : Option Value → wm_M → Prop) (h : wm_OkV 0 1 [.ref 13, .ref 42] μ (fun μ1 => wm_Wp 0 46 33 [.ref 1, .ref 30] μ1 Q)) : wm_Wp 0 46 22 [.ref 1, .ref 30] μ Q := wm_vc mo_46 (rt := none) (by decide +kernel) mc_46 126 h
-- WindBoat$Log.take(LWindBoat$Log;)V, the place 33
set_option maxRecDepth 100000 in
set_option maxHeartbeats 8000000 in
theorem f_46_33b (μ : wm_M) (Q : Option Value → wm_M → Prop) (h : wm_OkV 0 60 [.ref 18, .ref 47] μ (fun μ1 => wm_Wp 0 46 44 [.ref 1, .ref 30] μ1 Q)) : wm_Wp 0 46 33 [.ref 1, .ref 30] μ Q := wm_vc mo_46 (rt := none) (by decide +kernel) mc_46 126 h
-- WindBoat$Log.take(LWindBoat$Log;)V, the place 44
set_option maxRecDepth 100000 in
set_option maxHeartbeats 8000000 in
theorem f_46_44b (μ : wm_M) (Q : Option Value → wm_M → Prop) (h : wm_Wp 0 46 52 [.ref 1, .ref 30] (wm_si μ 1 4 (μ.1 30 4)) Q) : wm_Wp 0 46 44 [.ref 1, .ref 30] μ Q := wm_vc mo_46 (rt := none) (by decide +kernel) mc_46 126 h
-- WindBoat$Log.take(LWindBoat$Log;)V, the place 52
set_option maxRecDepth 100000 in
set_option maxHeartbeats 8000000 in
theorem f_46_52b (μ : wm_M) (Q : Option Value → wm_M → Prop) (h : wm_Wp 0 46 60 [.ref 1, .ref 30] (wm_si μ 1 5 (μ.1 30 5)) Q) : wm_Wp 0 46 52 [.ref 1, .ref 30] μ Q := wm_vc mo_46 (rt := none) (by decide +kernel) mc_46 126 h
-- WindBoat$Log.take(LWindBoat$Log;)V, the place 60
set_option maxRecDepth 100000 in
set_option maxHeartbeats 8000000 in
theorem f_46_60b (μ : wm_M) (Q : Option Value → wm_M → Prop) (h : (¬ (0 : Int32) < 0 ∧ ¬ (0 : Int32) < 0 ∧ ¬ (3 : Int32) < 0 ∧ ((0 : Int32)).toNatClampNeg + ((3 : Int32)).toNatClampNeg ≤ 3 ∧ ((0 : Int32)).toNatClampNeg + ((3 : Int32)).toNatClampNeg ≤ 3 ∧ ∀ μ1, μ1 = wm_sr μ 27 (va_cpy (μ.1 56) (μ.1 27) ((0 : Int32)).toNatClampNeg ((0 : Int32)).toNatClampNeg ((3 : Int32)).toNatClampNeg) → wm_Wp 0 46 74 [.ref 1, .ref 30] μ1 Q)) : wm_Wp 0 46 60 [.ref 1, .ref 30] μ Q := wm_vc mo_46 (rt := none) (by decide +kernel) mc_46 126 h
-- WindBoat$Log.take(LWindBoat$Log;)V, the place 74
set_option maxRecDepth 100000 in
set_option maxHeartbeats 8000000 in
theorem f_46_74b (μ : wm_M) (Q : Option Value → wm_M → Prop) (h : (¬ (0 : Int32) < 0 ∧ ¬ (0 : Int32) < 0 ∧ ¬ (6 : Int32) < 0 ∧ ((0 : Int32)).toNatClampNeg + ((6 : Int32)).toNatClampNeg ≤ 6 ∧ ((0 : Int32)).toNatClampNeg + ((6 : Int32)).toNatClampNeg ≤ 6 ∧ ∀ μ1, μ1 = wm_sr μ 28 (va_cpy (μ.1 57) (μ.1 28) ((0 : Int32)).toNatClampNeg ((0 : Int32)).toNatClampNeg ((6 : Int32)).toNatClampNeg) → wm_Wp 0 46 89 [.ref 1, .ref 30] μ1 Q)) : wm_Wp 0 46 74 [.ref 1, .ref 30] μ Q := wm_vc mo_46 (rt := none) (by decide +kernel) mc_46 126 h
-- WindBoat$Log.take(LWindBoat$Log;)V, the place 89
set_option maxRecDepth 100000 in
set_option maxHeartbeats 8000000 in
theorem f_46_89b (μ : wm_M) (Q : Option Value → wm_M → Prop) (h : (¬ (0 : Int32) < 0 ∧ ¬ (0 : Int32) < 0 ∧ ¬ (36 : Int32) < 0 ∧ ((0 : Int32)).toNatClampNeg + ((36 : Int32)).toNatClampNeg ≤ 36 ∧ ((0 : Int32)).toNatClampNeg + ((36 : Int32)).toNatClampNeg ≤ 36 ∧ ∀ μ1, μ1 = wm_sr μ 29 (va_cpy (μ.1 58) (μ.1 29) ((0 : Int32)).toNatClampNeg ((0 : Int32)).toNatClampNeg ((36 : Int32)).toNatClampNeg) → wm_Wp 0 46 104 [.null, .null] μ1 Q)) : wm_Wp 0 46 89 [.ref 1, .ref 30] μ Q := wm_vc mo_46 (rt := none) (by decide +kernel) mc_46 126 h
-- WindBoat$Log.take(LWindBoat$Log;)V, the place 104
set_option maxRecDepth 100000 in
set_option maxHeartbeats 8000000 in
theorem f_46_104b (μ : wm_M) (Q : Option Value → wm_M → Prop) (h : Q none μ) : wm_Wp 0 46 104 [.null, .null] μ Q := wm_vc mo_46 (rt := none) (by decide +kernel) mc_46 126 h
-- WindBoat$Log.take(LWindBoat$Log;)V
set_option maxRecDepth 100000 in
set_option maxHeartbeats 8000000 in
theorem f_46i (μ : wm_M) (Q : Option Value → wm_M → Prop) (h : wm_OkV 0 68 [.ref 31, .ref 2] μ (fun μ1 => wm_Wp 0 46 11 [.ref 30, .ref 1] μ1 Q)) : wm_Ok 0 46 [.ref 30, .ref 1] μ Q := wm_ent (nL := 2) (l := [.ref 30, .ref 1]) (by decide +kernel) (by decide +kernel) (by decide +kernel) rfl rfl (wm_vc mo_46 (rt := none) (by decide +kernel) mc_46 126 h)
-- WindBoat$Log.take(LWindBoat$Log;)V, the place 11
set_option maxRecDepth 100000 in
set_option maxHeartbeats 8000000 in
theorem f_46_11i (μ : wm_M) (Q : Option Value → wm_M → Prop) (h : wm_OkV 0 83 [.ref 36, .ref 7] μ (fun μ1 => wm_Wp 0 46 22 [.ref 30, .ref 1] μ1 Q)) : wm_Wp 0 46 11 [.ref 30, .ref 1] μ Q := wm_vc mo_46 (rt := none) (by decide +kernel) mc_46 126 h
-- WindBoat$Log.take(LWindBoat$Log;)V, the place 22
set_option maxRecDepth 100000 in
set_option maxHeartbeats 8000000 in
theorem f_46_22i (μ : wm_M) (Q : Option Value → wm_M → Prop) (h : wm_OkV 0 1 [.ref 42, .ref 13] μ (fun μ1 => wm_Wp 0 46 33 [.ref 30, .ref 1] μ1 Q)) : wm_Wp 0 46 22 [.ref 30, .ref 1] μ Q := wm_vc mo_46 (rt := none) (by decide +kernel) mc_46 126 h
-- WindBoat$Log.take(LWindBoat$Log;)V, the place 33
set_option maxRecDepth 100000 in
set_option maxHeartbeats 8000000 in
theorem f_46_33i (μ : wm_M) (Q : Option Value → wm_M → Prop) (h : wm_OkV 0 60 [.ref 47, .ref 18] μ (fun μ1 => wm_Wp 0 46 44 [.ref 30, .ref 1] μ1 Q)) : wm_Wp 0 46 33 [.ref 30, .ref 1] μ Q := wm_vc mo_46 (rt := none) (by decide +kernel) mc_46 126 h
-- WindBoat$Log.take(LWindBoat$Log;)V, the place 44
set_option maxRecDepth 100000 in
set_option maxHeartbeats 8000000 in
theorem f_46_44i (μ : wm_M) (Q : Option Value → wm_M → Prop) (h : wm_Wp 0 46 52 [.ref 30, .ref 1] (wm_si μ 30 4 (μ.1 1 4)) Q) : wm_Wp 0 46 44 [.ref 30, .ref 1] μ Q := wm_vc mo_46 (rt := none) (by decide +kernel) mc_46 126 h
-- WindBoat$Log.take(LWindBoat$Log;)V, the place 52
set_option maxRecDepth 100000 in
set_option maxHeartbeats 8000000 in
theorem f_46_52i (μ : wm_M) (Q : Option Value → wm_M → Prop) (h : wm_Wp 0 46 60 [.ref 30, .ref 1] (wm_si μ 30 5 (μ.1 1 5)) Q) : wm_Wp 0 46 52 [.ref 30, .ref 1] μ Q := wm_vc mo_46 (rt := none) (by decide +kernel) mc_46 126 h
-- WindBoat$Log.take(LWindBoat$Log;)V, the place 60
set_option maxRecDepth 100000 in
set_option maxHeartbeats 8000000 in
theorem f_46_60i (μ : wm_M) (Q : Option Value → wm_M → Prop) (h : (¬ (0 : Int32) < 0 ∧ ¬ (0 : Int32) < 0 ∧ ¬ (3 : Int32) < 0 ∧ ((0 : Int32)).toNatClampNeg + ((3 : Int32)).toNatClampNeg ≤ 3 ∧ ((0 : Int32)).toNatClampNeg + ((3 : Int32)).toNatClampNeg ≤ 3 ∧ ∀ μ1, μ1 = wm_sr μ 56 (va_cpy (μ.1 27) (μ.1 56) ((0 : Int32)).toNatClampNeg ((0 : Int32)).toNatClampNeg ((3 : Int32)).toNatClampNeg) → wm_Wp 0 46 74 [.ref 30, .ref 1] μ1 Q)) : wm_Wp 0 46 60 [.ref 30, .ref 1] μ Q := wm_vc mo_46 (rt := none) (by decide +kernel) mc_46 126 h
-- WindBoat$Log.take(LWindBoat$Log;)V, the place 74
set_option maxRecDepth 100000 in
set_option maxHeartbeats 8000000 in
theorem f_46_74i (μ : wm_M) (Q : Option Value → wm_M → Prop) (h : (¬ (0 : Int32) < 0 ∧ ¬ (0 : Int32) < 0 ∧ ¬ (6 : Int32) < 0 ∧ ((0 : Int32)).toNatClampNeg + ((6 : Int32)).toNatClampNeg ≤ 6 ∧ ((0 : Int32)).toNatClampNeg + ((6 : Int32)).toNatClampNeg ≤ 6 ∧ ∀ μ1, μ1 = wm_sr μ 57 (va_cpy (μ.1 28) (μ.1 57) ((0 : Int32)).toNatClampNeg ((0 : Int32)).toNatClampNeg ((6 : Int32)).toNatClampNeg) → wm_Wp 0 46 89 [.ref 30, .ref 1] μ1 Q)) : wm_Wp 0 46 74 [.ref 30, .ref 1] μ Q := wm_vc mo_46 (rt := none) (by decide +kernel) mc_46 126 h
-- WindBoat$Log.take(LWindBoat$Log;)V, the place 89
set_option maxRecDepth 100000 in
set_option maxHeartbeats 8000000 in
theorem f_46_89i (μ : wm_M) (Q : Option Value → wm_M → Prop) (h : (¬ (0 : Int32) < 0 ∧ ¬ (0 : Int32) < 0 ∧ ¬ (36 : Int32) < 0 ∧ ((0 : Int32)).toNatClampNeg + ((36 : Int32)).toNatClampNeg ≤ 36 ∧ ((0 : Int32)).toNatClampNeg + ((36 : Int32)).toNatClampNeg ≤ 36 ∧ ∀ μ1, μ1 = wm_sr μ 58 (va_cpy (μ.1 29) (μ.1 58) ((0 : Int32)).toNatClampNeg ((0 : Int32)).toNatClampNeg ((36 : Int32)).toNatClampNeg) → wm_Wp 0 46 104 [.null, .null] μ1 Q)) : wm_Wp 0 46 89 [.ref 30, .ref 1] μ Q := wm_vc mo_46 (rt := none) (by decide +kernel) mc_46 126 h
-- WindBoat$Log.take(LWindBoat$Log;)V, the place 104
set_option maxRecDepth 100000 in
set_option maxHeartbeats 8000000 in
theorem f_46_104i (μ : wm_M) (Q : Option Value → wm_M → Prop) (h : Q none μ) : wm_Wp 0 46 104 [.null, .null] μ Q := wm_vc mo_46 (rt := none) (by decide +kernel) mc_46 126 h
-- WindBoat$Log.speakOf(III)V
set_option maxRecDepth 100000 in
set_option maxHeartbeats 8000000 in
theorem f_47 (a1 : Int32) (a2 : Int32) (a3 : Int32) (μ : wm_M) (Q : Option Value → wm_M → Prop) (h : (vp_in a1 36 ∧ wm_OkV 0 62 [.ref 18, .int a1, .int a3, .int a2, .int (μ.1 4 (a1).toNatClampNeg), .int (μ.1 13 14)] μ (fun μ1 => wm_Wp 0 47 26 [.null, .null, .null, .null] μ1 Q))) : wm_Ok 0 47 [.ref 1, .int a1, .int a2, .int a3] μ Q := wm_ent (nL := 4) (l := [.ref 1, .int a1, .int a2, .int a3]) (by decide +kernel) (by decide +kernel) (by decide +kernel) rfl rfl (wm_vc mo_47 (rt := none) (by decide +kernel) mc_47 50 h)
-- WindBoat$Log.speakOf(III)V, the place 26
set_option maxRecDepth 100000 in
set_option maxHeartbeats 8000000 in
theorem f_47_26 (μ : wm_M) (Q : Option Value → wm_M → Prop) (h : Q none μ) : wm_Wp 0 47 26 [.null, .null, .null, .null] μ Q := wm_vc mo_47 (rt := none) (by decide +kernel) mc_47 50 h
-- WindBoat$Log.tiredAwake()I
set_option maxRecDepth 100000 in
set_option maxHeartbeats 8000000 in
theorem f_48 (μ : wm_M) (Q : Option Value → wm_M → Prop) (h : (((μ.1 13 10) ≤ (0 : Int32) → wm_OkI 0 180 [.int (μ.1 13 4)] μ (fun r2 μ1 => wm_OkV 0 47 [.ref 1, .int (0 : Int32), .int (0 : Int32), .int r2] μ1 (fun μ3 => wm_Wp 0 48 38 [.ref 1] μ3 Q))) ∧ (¬ (μ.1 13 10) ≤ (0 : Int32) → (vp_in (0 : Int32) 3 ∧ wm_OkI 0 180 [.int (μ.1 13 4)] μ (fun r5 μ4 => wm_OkV 0 47 [.ref 1, .int (0 : Int32), .int (μ.1 14 ((0 : Int32)).toNatClampNeg), .int r5] μ4 (fun μ6 => wm_Wp 0 48 38 [.ref 1] μ6 Q)))))) : wm_Ok 0 48 [.ref 1] μ Q := wm_ent (nL := 1) (l := [.ref 1]) (by decide +kernel) (by decide +kernel) (by decide +kernel) rfl rfl (wm_vc mo_48 (rt := some .int) (by decide +kernel) mc_48 72 h)
-- WindBoat$Log.tiredAwake()I, the place 38
set_option maxRecDepth 100000 in
set_option maxHeartbeats 8000000 in
theorem f_48_38 (μ : wm_M) (Q : Option Value → wm_M → Prop) (h : wm_OkI 0 64 [.ref 18, .int (2 : Int32)] μ (fun r2 μ1 => wm_OkI 0 13 [.ref 13, .int r2] μ1 (fun r4 μ3 => Q (some (.int r4)) μ3))) : wm_Wp 0 48 38 [.ref 1] μ Q := wm_vc mo_48 (rt := some .int) (by decide +kernel) mc_48 72 h
-- WindBoat$Log.change()I
set_option maxRecDepth 100000 in
set_option maxHeartbeats 8000000 in
theorem f_49 (μ : wm_M) (Q : Option Value → wm_M → Prop) (h : (((μ.1 13 14) = (0 : Int32) → Q (some (.int (9 : Int32))) μ) ∧ (¬ (μ.1 13 14) = (0 : Int32) → wm_Wp 0 49 15 [.ref 1] μ Q))) : wm_Ok 0 49 [.ref 1] μ Q := wm_ent (nL := 1) (l := [.ref 1]) (by decide +kernel) (by decide +kernel) (by decide +kernel) rfl rfl (wm_vc mo_49 (rt := some .int) (by decide +kernel) mc_49 42 h)
-- WindBoat$Log.change()I, the place 15
set_option maxRecDepth 100000 in
set_option maxHeartbeats 8000000 in
theorem f_49_15 (μ : wm_M) (Q : Option Value → wm_M → Prop) (h : wm_OkI 0 48 [.ref 1] μ (fun r2 μ1 => Q (some (.int ((2 : Int32) + r2))) μ1)) : wm_Wp 0 49 15 [.ref 1] μ Q := wm_vc mo_49 (rt := some .int) (by decide +kernel) mc_49 42 h
-- WindBoat$Log.tearsIn(I)Z
set_option maxRecDepth 100000 in
set_option maxHeartbeats 8000000 in
theorem f_50 (a1 : Int32) (μ : wm_M) (Q : Option Value → wm_M → Prop) (h : wm_OkI 0 180 [.int a1] μ (fun r2 μ1 => wm_OkI 0 73 [.ref 2, .int (6 : Int32), .int r2, .int (μ1.1 13 1)] μ1 (fun r4 μ3 => wm_OkI 0 6 [.ref 13, .int (μ3.1 13 3)] μ3 (fun r6 μ5 => ((r4 ≤ r6 → wm_Wp 0 50 41 [.null, .null] μ5 Q) ∧ (¬ r4 ≤ r6 → wm_Wp 0 50 37 [.null, .null] μ5 Q)))))) : wm_Ok 0 50 [.ref 1, .int a1] μ Q := wm_ent (nL := 2) (l := [.ref 1, .int a1]) (by decide +kernel) (by decide +kernel) (by decide +kernel) rfl rfl (wm_vc mo_50 (rt := some .boolean) (by decide +kernel) mc_50 60 h)
-- WindBoat$Log.tearsIn(I)Z, the place 37
set_option maxRecDepth 100000 in
set_option maxHeartbeats 8000000 in
theorem f_50_37 (μ : wm_M) (Q : Option Value → wm_M → Prop) (h : (((1 : Int32) = 0 ∨ (1 : Int32) = 1) ∧ Q (some (.int (1 : Int32))) μ)) : wm_Wp 0 50 37 [.null, .null] μ Q := wm_vc mo_50 (rt := some .boolean) (by decide +kernel) mc_50 60 h
-- WindBoat$Log.tearsIn(I)Z, the place 41
set_option maxRecDepth 100000 in
set_option maxHeartbeats 8000000 in
theorem f_50_41 (μ : wm_M) (Q : Option Value → wm_M → Prop) (h : (((0 : Int32) = 0 ∨ (0 : Int32) = 1) ∧ Q (some (.int (0 : Int32))) μ)) : wm_Wp 0 50 41 [.null, .null] μ Q := wm_vc mo_50 (rt := some .boolean) (by decide +kernel) mc_50 60 h
-- WindBoat$Log.tearsBy(I)Z
set_option maxRecDepth 100000 in
set_option maxHeartbeats 8000000 in
theorem f_51 (a1 : Int32) (μ : wm_M) (Q : Option Value → wm_M → Prop) (h : (vp_in (μ.1 13 3) 3 ∧ wm_Wp 0 51 24 [.ref 1, .int a1, .int (μ.1 15 ((μ.1 13 3)).toNatClampNeg), .int (μ.1 13 4)] μ Q)) : wm_Ok 0 51 [.ref 1, .int a1] μ Q := wm_ent (nL := 4) (l := [.ref 1, .int a1, .null, .null]) (by decide +kernel) (by decide +kernel) (by decide +kernel) rfl rfl (wm_vc mo_51 (rt := some .boolean) (by decide +kernel) mc_51 78 h)
-- WindBoat$Log.tearsBy(I)Z, the place 24
set_option maxRecDepth 100000 in
set_option maxHeartbeats 8000000 in
theorem f_51_24 (x1 : Int32) (x2 : Int32) (x3 : Int32) (μ : wm_M) (Q : Option Value → wm_M → Prop) (h : ((x1 ≤ x3 → wm_Wp 0 51 53 [.null, .null, .int x2, .null] μ Q) ∧ (¬ x1 ≤ x3 → ((x2 = (0 : Int32) → wm_OkI 0 50 [.ref 1, .int x3] μ (fun r2 μ1 => ((r2 = (0 : Int32) → wm_Wp 0 51 45 [.ref 1, .int x1, .null, .int x3] μ1 Q) ∧ (¬ r2 = (0 : Int32) → wm_Wp 0 51 41 [.ref 1, .int x1, .null, .int x3] μ1 Q)))) ∧ (¬ x2 = (0 : Int32) → wm_Wp 0 51 41 [.ref 1, .int x1, .null, .int x3] μ Q))))) : wm_Wp 0 51 24 [.ref 1, .int x1, .int x2, .int x3] μ Q := wm_vc mo_51 (rt := some .boolean) (by decide +kernel) mc_51 78 h
-- WindBoat$Log.tearsBy(I)Z, the place 41
set_option maxRecDepth 100000 in
set_option maxHeartbeats 8000000 in
theorem f_51_41 (x1 : Int32) (x3 : Int32) (μ : wm_M) (Q : Option Value → wm_M → Prop) (h : wm_Wp 0 51 24 [.ref 1, .int x1, .int (1 : Int32), .int (x3 + (1 : Int32))] μ Q) : wm_Wp 0 51 41 [.ref 1, .int x1, .null, .int x3] μ Q := wm_vc mo_51 (rt := some .boolean) (by decide +kernel) mc_51 78 h
-- WindBoat$Log.tearsBy(I)Z, the place 45
set_option maxRecDepth 100000 in
set_option maxHeartbeats 8000000 in
theorem f_51_45 (x1 : Int32) (x3 : Int32) (μ : wm_M) (Q : Option Value → wm_M → Prop) (h : wm_Wp 0 51 24 [.ref 1, .int x1, .int (0 : Int32), .int (x3 + (1 : Int32))] μ Q) : wm_Wp 0 51 45 [.ref 1, .int x1, .null, .int x3] μ Q := wm_vc mo_51 (rt := some .boolean) (by decide +kernel) mc_51 78 h
-- WindBoat$Log.tearsBy(I)Z, the place 53
set_option maxRecDepth 100000 in
set_option maxHeartbeats 8000000 in
theorem f_51_53 (x2 : Int32) (μ : wm_M) (Q : Option Value → wm_M → Prop) (h : ((x2 = 0 ∨ x2 = 1) ∧ Q (some (.int x2)) μ)) : wm_Wp 0 51 53 [.null, .null, .int x2, .null] μ Q := wm_vc mo_51 (rt := some .boolean) (by decide +kernel) mc_51 78 h
-- WindBoat$Log.pass(I)V
set_option maxRecDepth 100000 in
set_option maxHeartbeats 8000000 in
theorem f_52 (a1 : Int32) (μ : wm_M) (Q : Option Value → wm_M → Prop) (h : wm_Wp 0 52 2 [.ref 1, .int a1, .int (0 : Int32)] μ Q) : wm_Ok 0 52 [.ref 1, .int a1] μ Q := wm_ent (nL := 3) (l := [.ref 1, .int a1, .null]) (by decide +kernel) (by decide +kernel) (by decide +kernel) rfl rfl (wm_vc mo_52 (rt := none) (by decide +kernel) mc_52 84 h)
-- WindBoat$Log.pass(I)V, the place 2
set_option maxRecDepth 100000 in
set_option maxHeartbeats 8000000 in
theorem f_52_2 (x1 : Int32) (x2 : Int32) (μ : wm_M) (Q : Option Value → wm_M → Prop) (h : ((x1 ≤ x2 → wm_Wp 0 52 63 [.null, .null, .null] μ Q) ∧ (¬ x1 ≤ x2 → wm_OkV 0 12 [.ref 13] μ (fun μ1 => wm_Wp 0 52 14 [.ref 1, .int x1, .int x2] μ1 Q)))) : wm_Wp 0 52 2 [.ref 1, .int x1, .int x2] μ Q := wm_vc mo_52 (rt := none) (by decide +kernel) mc_52 84 h
-- WindBoat$Log.pass(I)V, the place 14
set_option maxRecDepth 100000 in
set_option maxHeartbeats 8000000 in
theorem f_52_14 (x1 : Int32) (x2 : Int32) (μ : wm_M) (Q : Option Value → wm_M → Prop) (h : wm_OkI 0 50 [.ref 1, .int (μ.1 13 4)] μ (fun r2 μ1 => ((r2 = (0 : Int32) → wm_Wp 0 52 44 [.ref 1, .int x1, .int x2] μ1 Q) ∧ (¬ r2 = (0 : Int32) → wm_Wp 0 52 28 [.ref 1, .int x1, .int x2] μ1 Q)))) : wm_Wp 0 52 14 [.ref 1, .int x1, .int x2] μ Q := wm_vc mo_52 (rt := none) (by decide +kernel) mc_52 84 h
-- WindBoat$Log.pass(I)V, the place 28
set_option maxRecDepth 100000 in
set_option maxHeartbeats 8000000 in
theorem f_52_28 (x1 : Int32) (x2 : Int32) (μ : wm_M) (Q : Option Value → wm_M → Prop) (h : (vp_in (μ.1 13 3) 3 ∧ wm_Wp 0 52 44 [.ref 1, .int x1, .int x2] (wm_si μ 15 ((μ.1 13 3)).toNatClampNeg (vp_nar .boolean (1 : Int32))) Q)) : wm_Wp 0 52 28 [.ref 1, .int x1, .int x2] μ Q := wm_vc mo_52 (rt := none) (by decide +kernel) mc_52 84 h
-- WindBoat$Log.pass(I)V, the place 44
set_option maxRecDepth 100000 in
set_option maxHeartbeats 8000000 in
theorem f_52_44 (x1 : Int32) (x2 : Int32) (μ : wm_M) (Q : Option Value → wm_M → Prop) (h : wm_Wp 0 52 57 [.ref 1, .int x1, .int x2] (wm_si μ 13 4 ((μ.1 13 4) + (1 : Int32))) Q) : wm_Wp 0 52 44 [.ref 1, .int x1, .int x2] μ Q := wm_vc mo_52 (rt := none) (by decide +kernel) mc_52 84 h
-- WindBoat$Log.pass(I)V, the place 57
set_option maxRecDepth 100000 in
set_option maxHeartbeats 8000000 in
theorem f_52_57 (x1 : Int32) (x2 : Int32) (μ : wm_M) (Q : Option Value → wm_M → Prop) (h : wm_Wp 0 52 2 [.ref 1, .int x1, .int (x2 + (1 : Int32))] μ Q) : wm_Wp 0 52 57 [.ref 1, .int x1, .int x2] μ Q := wm_vc mo_52 (rt := none) (by decide +kernel) mc_52 84 h
-- WindBoat$Log.pass(I)V, the place 63
set_option maxRecDepth 100000 in
set_option maxHeartbeats 8000000 in
theorem f_52_63 (μ : wm_M) (Q : Option Value → wm_M → Prop) (h : Q none μ) : wm_Wp 0 52 63 [.null, .null, .null] μ Q := wm_vc mo_52 (rt := none) (by decide +kernel) mc_52 84 h
-- WindBoat$Log.placeOf(II)I
set_option maxRecDepth 100000 in
set_option maxHeartbeats 8000000 in
theorem f_53 (a1 : Int32) (a2 : Int32) (μ : wm_M) (Q : Option Value → wm_M → Prop) (h : wm_Wp 0 53 5 [.ref 1, .int a1, .int a2, .int (1 : Int32), .int (0 : Int32)] μ Q) : wm_Ok 0 53 [.ref 1, .int a1, .int a2] μ Q := wm_ent (nL := 5) (l := [.ref 1, .int a1, .int a2, .null, .null]) (by decide +kernel) (by decide +kernel) (by decide +kernel) rfl rfl (wm_vc mo_53 (rt := some .int) (by decide +kernel) mc_53 76 h)
-- WindBoat$Log.placeOf(II)I, the place 5
set_option maxRecDepth 100000 in
set_option maxHeartbeats 8000000 in
theorem f_53_5 (x1 : Int32) (x2 : Int32) (x3 : Int32) (x4 : Int32) (μ : wm_M) (Q : Option Value → wm_M → Prop) (h : (((6 : Int32) ≤ x4 → wm_Wp 0 53 45 [.null, .null, .null, .int x3, .null] μ Q) ∧ (¬ (6 : Int32) ≤ x4 → (vp_in ((x1 * (6 : Int32)) + x4) 36 ∧ ((x2 ≤ (μ.1 29 (((x1 * (6 : Int32)) + x4)).toNatClampNeg) → wm_OkI 0 177 [.int (0 : Int32)] μ (fun r2 μ1 => wm_Wp 0 53 39 [.ref 1, .int x1, .int x2, .int (x3 + r2), .int x4] μ1 Q)) ∧ (¬ x2 ≤ (μ.1 29 (((x1 * (6 : Int32)) + x4)).toNatClampNeg) → wm_OkI 0 177 [.int (1 : Int32)] μ (fun r4 μ3 => wm_Wp 0 53 39 [.ref 1, .int x1, .int x2, .int (x3 + r4), .int x4] μ3 Q))))))) : wm_Wp 0 53 5 [.ref 1, .int x1, .int x2, .int x3, .int x4] μ Q := wm_vc mo_53 (rt := some .int) (by decide +kernel) mc_53 76 h
-- WindBoat$Log.placeOf(II)I, the place 39
set_option maxRecDepth 100000 in
set_option maxHeartbeats 8000000 in
theorem f_53_39 (x1 : Int32) (x2 : Int32) (x3 : Int32) (x4 : Int32) (μ : wm_M) (Q : Option Value → wm_M → Prop) (h : wm_Wp 0 53 5 [.ref 1, .int x1, .int x2, .int x3, .int (x4 + (1 : Int32))] μ Q) : wm_Wp 0 53 39 [.ref 1, .int x1, .int x2, .int x3, .int x4] μ Q := wm_vc mo_53 (rt := some .int) (by decide +kernel) mc_53 76 h
-- WindBoat$Log.placeOf(II)I, the place 45
set_option maxRecDepth 100000 in
set_option maxHeartbeats 8000000 in
theorem f_53_45 (x3 : Int32) (μ : wm_M) (Q : Option Value → wm_M → Prop) (h : Q (some (.int x3)) μ) : wm_Wp 0 53 45 [.null, .null, .null, .int x3, .null] μ Q := wm_vc mo_53 (rt := some .int) (by decide +kernel) mc_53 76 h
-- WindBoat$Losses.workOut(II)V
set_option maxRecDepth 100000 in
set_option maxHeartbeats 8000000 in
theorem f_55 (a1 : Int32) (a2 : Int32) (μ : wm_M) (Q : Option Value → wm_M → Prop) (h : wm_Wp 0 55 2 [.ref 81, .int a1, .int a2, .int (0 : Int32)] μ Q) : wm_Ok 0 55 [.ref 81, .int a1, .int a2] μ Q := wm_ent (nL := 4) (l := [.ref 81, .int a1, .int a2, .null]) (by decide +kernel) (by decide +kernel) (by decide +kernel) rfl rfl (wm_vc mo_55 (rt := none) (by decide +kernel) mc_55 142 h)
-- WindBoat$Losses.workOut(II)V, the place 2
set_option maxRecDepth 100000 in
set_option maxHeartbeats 8000000 in
theorem f_55_2 (x1 : Int32) (x2 : Int32) (x3 : Int32) (μ : wm_M) (Q : Option Value → wm_M → Prop) (h : (((4 : Int32) ≤ x3 → wm_Wp 0 55 57 [.ref 81, .null, .int x2, .null] μ Q) ∧ (¬ (4 : Int32) ≤ x3 → (((x3 &&& (1 : Int32)) = (0 : Int32) → (((x3 &&& (2 : Int32)) = (0 : Int32) → wm_OkV 0 19 [.ref 62, .int x1, .int (0 : Int32)] μ (fun μ1 => wm_Wp 0 55 37 [.ref 81, .int x1, .int x2, .int x3] μ1 Q)) ∧ (¬ (x3 &&& (2 : Int32)) = (0 : Int32) → wm_OkV 0 19 [.ref 62, .int x1, .int (1 : Int32)] μ (fun μ2 => wm_Wp 0 55 37 [.ref 81, .int x1, .int x2, .int x3] μ2 Q)))) ∧ (¬ (x3 &&& (1 : Int32)) = (0 : Int32) → (((x3 &&& (2 : Int32)) = (0 : Int32) → wm_OkV 0 19 [.ref 62, .int (6 : Int32), .int (0 : Int32)] μ (fun μ3 => wm_Wp 0 55 37 [.ref 81, .int x1, .int x2, .int x3] μ3 Q)) ∧ (¬ (x3 &&& (2 : Int32)) = (0 : Int32) → wm_OkV 0 19 [.ref 62, .int (6 : Int32), .int (1 : Int32)] μ (fun μ4 => wm_Wp 0 55 37 [.ref 81, .int x1, .int x2, .int x3] μ4 Q)))))))) : wm_Wp 0 55 2 [.ref 81, .int x1, .int x2, .int x3] μ Q := wm_vc mo_55 (rt := none) (by decide +kernel) mc_55 142 h
-- WindBoat$Losses.workOut(II)V, the place 37
set_option maxRecDepth 100000 in
set_option maxHeartbeats 8000000 in
theorem f_55_37 (x1 : Int32) (x2 : Int32) (x3 : Int32) (μ : wm_M) (Q : Option Value → wm_M → Prop) (h : wm_OkV 0 56 [.ref 81, .int x3, .int x2] μ (fun μ1 => wm_Wp 0 55 43 [.ref 81, .int x1, .int x2, .int x3] μ1 Q)) : wm_Wp 0 55 37 [.ref 81, .int x1, .int x2, .int x3] μ Q := wm_vc mo_55 (rt := none) (by decide +kernel) mc_55 142 h
-- WindBoat$Losses.workOut(II)V, the place 43
set_option maxRecDepth 100000 in
set_option maxHeartbeats 8000000 in
theorem f_55_43 (x1 : Int32) (x2 : Int32) (x3 : Int32) (μ : wm_M) (Q : Option Value → wm_M → Prop) (h : wm_OkV 0 56 [.ref 81, .int (x3 ||| (4 : Int32)), .int (2 : Int32)] μ (fun μ1 => wm_Wp 0 55 51 [.ref 81, .int x1, .int x2, .int x3] μ1 Q)) : wm_Wp 0 55 43 [.ref 81, .int x1, .int x2, .int x3] μ Q := wm_vc mo_55 (rt := none) (by decide +kernel) mc_55 142 h
-- WindBoat$Losses.workOut(II)V, the place 51
set_option maxRecDepth 100000 in
set_option maxHeartbeats 8000000 in
theorem f_55_51 (x1 : Int32) (x2 : Int32) (x3 : Int32) (μ : wm_M) (Q : Option Value → wm_M → Prop) (h : wm_Wp 0 55 2 [.ref 81, .int x1, .int x2, .int (x3 + (1 : Int32))] μ Q) : wm_Wp 0 55 51 [.ref 81, .int x1, .int x2, .int x3] μ Q := wm_vc mo_55 (rt := none) (by decide +kernel) mc_55 142 h
-- WindBoat$Losses.workOut(II)V, the place 57
set_option maxRecDepth 100000 in
set_option maxHeartbeats 8000000 in
theorem f_55_57 (x2 : Int32) (μ : wm_M) (Q : Option Value → wm_M → Prop) (h : wm_OkV 0 19 [.ref 62, .int (6 : Int32), .int (1 : Int32)] μ (fun μ1 => wm_Wp 0 55 67 [.ref 81, .null, .int x2, .null] μ1 Q)) : wm_Wp 0 55 57 [.ref 81, .null, .int x2, .null] μ Q := wm_vc mo_55 (rt := none) (by decide +kernel) mc_55 142 h
-- WindBoat$Losses.workOut(II)V, the place 67
set_option maxRecDepth 100000 in
set_option maxHeartbeats 8000000 in
theorem f_55_67 (x2 : Int32) (μ : wm_M) (Q : Option Value → wm_M → Prop) (h : wm_Wp 0 55 69 [.ref 81, .null, .int x2, .int (0 : Int32)] μ Q) : wm_Wp 0 55 67 [.ref 81, .null, .int x2, .null] μ Q := wm_vc mo_55 (rt := none) (by decide +kernel) mc_55 142 h
-- WindBoat$Losses.workOut(II)V, the place 69
set_option maxRecDepth 100000 in
set_option maxHeartbeats 8000000 in
theorem f_55_69 (x2 : Int32) (x3 : Int32) (μ : wm_M) (Q : Option Value → wm_M → Prop) (h : (((8 : Int32) ≤ x3 → wm_Wp 0 55 103 [.null, .null, .null, .null] μ Q) ∧ (¬ (8 : Int32) ≤ x3 → (((x3 &&& (4 : Int32)) = (0 : Int32) → wm_OkI 0 57 [.ref 81, .int x3, .int x2] μ (fun r2 μ1 => (vp_in x3 8 ∧ wm_Wp 0 55 97 [.ref 81, .null, .int x2, .int x3] (wm_si μ1 84 (x3).toNatClampNeg r2) Q))) ∧ (¬ (x3 &&& (4 : Int32)) = (0 : Int32) → wm_OkI 0 57 [.ref 81, .int x3, .int (2 : Int32)] μ (fun r4 μ3 => (vp_in x3 8 ∧ wm_Wp 0 55 97 [.ref 81, .null, .int x2, .int x3] (wm_si μ3 84 (x3).toNatClampNeg r4) Q))))))) : wm_Wp 0 55 69 [.ref 81, .null, .int x2, .int x3] μ Q := wm_vc mo_55 (rt := none) (by decide +kernel) mc_55 142 h
-- WindBoat$Losses.workOut(II)V, the place 97
set_option maxRecDepth 100000 in
set_option maxHeartbeats 8000000 in
theorem f_55_97 (x2 : Int32) (x3 : Int32) (μ : wm_M) (Q : Option Value → wm_M → Prop) (h : wm_Wp 0 55 69 [.ref 81, .null, .int x2, .int (x3 + (1 : Int32))] μ Q) : wm_Wp 0 55 97 [.ref 81, .null, .int x2, .int x3] μ Q := wm_vc mo_55 (rt := none) (by decide +kernel) mc_55 142 h
-- WindBoat$Losses.workOut(II)V, the place 103
set_option maxRecDepth 100000 in
set_option maxHeartbeats 8000000 in
theorem f_55_103 (μ : wm_M) (Q : Option Value → wm_M → Prop) (h : Q none μ) : wm_Wp 0 55 103 [.null, .null, .null, .null] μ Q := wm_vc mo_55 (rt := none) (by decide +kernel) mc_55 142 h
-- WindBoat$Losses.keepPlan(II)V
set_option maxRecDepth 100000 in
set_option maxHeartbeats 8000000 in
theorem f_56 (a1 : Int32) (a2 : Int32) (μ : wm_M) (Q : Option Value → wm_M → Prop) (h : wm_OkI 0 112 [.ref 69, .int (μ.1 13 6), .int (μ.1 13 7), .int a2, .int (μ.1 2 4)] μ (fun r2 μ1 => wm_Wp 0 56 39 [.ref 81, .int a1, .null, .int r2] μ1 Q)) : wm_Ok 0 56 [.ref 81, .int a1, .int a2] μ Q := wm_ent (nL := 4) (l := [.ref 81, .int a1, .int a2, .null]) (by decide +kernel) (by decide +kernel) (by decide +kernel) rfl rfl (wm_vc mo_56 (rt := none) (by decide +kernel) mc_56 92 h)
-- WindBoat$Losses.keepPlan(II)V, the place 39
set_option maxRecDepth 100000 in
set_option maxHeartbeats 8000000 in
theorem f_56_39 (x1 : Int32) (x3 : Int32) (μ : wm_M) (Q : Option Value → wm_M → Prop) (h : (vp_in x1 8 ∧ wm_Wp 0 56 46 [.ref 81, .int x1, .null, .int x3] (wm_si μ 83 (x1).toNatClampNeg x3) Q)) : wm_Wp 0 56 39 [.ref 81, .int x1, .null, .int x3] μ Q := wm_vc mo_56 (rt := none) (by decide +kernel) mc_56 92 h
-- WindBoat$Losses.keepPlan(II)V, the place 46
set_option maxRecDepth 100000 in
set_option maxHeartbeats 8000000 in
theorem f_56_46 (x1 : Int32) (x3 : Int32) (μ : wm_M) (Q : Option Value → wm_M → Prop) (h : ((x3 ≤ (0 : Int32) → wm_Wp 0 56 70 [.null, .null, .null, .null] μ Q) ∧ (¬ x3 ≤ (0 : Int32) → (¬ (0 : Int32) < 0 ∧ ¬ (x1 * (121 : Int32)) < 0 ∧ ¬ x3 < 0 ∧ ((0 : Int32)).toNatClampNeg + (x3).toNatClampNeg ≤ 121 ∧ ((x1 * (121 : Int32))).toNatClampNeg + (x3).toNatClampNeg ≤ 968 ∧ ∀ μ1, μ1 = wm_sr μ 82 (va_cpy (μ.1 74) (μ.1 82) ((0 : Int32)).toNatClampNeg ((x1 * (121 : Int32))).toNatClampNeg (x3).toNatClampNeg) → wm_Wp 0 56 70 [.null, .null, .null, .null] μ1 Q)))) : wm_Wp 0 56 46 [.ref 81, .int x1, .null, .int x3] μ Q := wm_vc mo_56 (rt := none) (by decide +kernel) mc_56 92 h
-- WindBoat$Losses.keepPlan(II)V, the place 70
set_option maxRecDepth 100000 in
set_option maxHeartbeats 8000000 in
theorem f_56_70 (μ : wm_M) (Q : Option Value → wm_M → Prop) (h : Q none μ) : wm_Wp 0 56 70 [.null, .null, .null, .null] μ Q := wm_vc mo_56 (rt := none) (by decide +kernel) mc_56 92 h
-- WindBoat$Losses.sailPlan(II)I
set_option maxRecDepth 100000 in
set_option maxHeartbeats 8000000 in
theorem f_57 (a1 : Int32) (a2 : Int32) (μ : wm_M) (Q : Option Value → wm_M → Prop) (h : (vp_in a1 8 ∧ (((μ.1 83 (a1).toNatClampNeg) = (-1 : Int32) → Q (some (.int (999 : Int32))) μ) ∧ (¬ (μ.1 83 (a1).toNatClampNeg) = (-1 : Int32) → wm_Wp 0 57 14 [.ref 81, .int a1, .int a2, .null, .null, .null, .null, .null, .null] μ Q)))) : wm_Ok 0 57 [.ref 81, .int a1, .int a2] μ Q := wm_ent (nL := 9) (l := [.ref 81, .int a1, .int a2, .null, .null, .null, .null, .null, .null]) (by decide +kernel) (by decide +kernel) (by decide +kernel) rfl rfl (wm_vc mo_57 (rt := some .int) (by decide +kernel) mc_57 228 h)
-- WindBoat$Losses.sailPlan(II)I, the place 14
set_option maxRecDepth 100000 in
set_option maxHeartbeats 8000000 in
theorem f_57_14 (x1 : Int32) (x2 : Int32) (μ : wm_M) (Q : Option Value → wm_M → Prop) (h : (¬ (3 : Int32) = 0 ∧ (¬ (3 : Int32) = 0 ∧ (¬ (8 : Int32) = 0 ∧ wm_Wp 0 57 44 [.ref 81, .int x1, .int x2, .int ((μ.1 13 6) - (μ.1 13 6) / (3 : Int32) * (3 : Int32)), .int (((μ.1 13 6) / (3 : Int32)) - ((μ.1 13 6) / (3 : Int32)) / (8 : Int32) * (8 : Int32)), .null, .null, .null, .null] μ Q)))) : wm_Wp 0 57 14 [.ref 81, .int x1, .int x2, .null, .null, .null, .null, .null, .null] μ Q := wm_vc mo_57 (rt := some .int) (by decide +kernel) mc_57 228 h
-- WindBoat$Losses.sailPlan(II)I, the place 44
set_option maxRecDepth 100000 in
set_option maxHeartbeats 8000000 in
theorem f_57_44 (x1 : Int32) (x2 : Int32) (x3 : Int32) (x4 : Int32) (μ : wm_M) (Q : Option Value → wm_M → Prop) (h : (¬ (24 : Int32) = 0 ∧ wm_Wp 0 57 71 [.ref 81, .int x1, .int x2, .int x3, .int x4, .int ((μ.1 13 6) / (24 : Int32)), .int (μ.1 13 7), .null, .null] μ Q)) : wm_Wp 0 57 44 [.ref 81, .int x1, .int x2, .int x3, .int x4, .null, .null, .null, .null] μ Q := wm_vc mo_57 (rt := some .int) (by decide +kernel) mc_57 228 h
-- WindBoat$Losses.sailPlan(II)I, the place 71
set_option maxRecDepth 100000 in
set_option maxHeartbeats 8000000 in
theorem f_57_71 (x1 : Int32) (x2 : Int32) (x3 : Int32) (x4 : Int32) (x5 : Int32) (x6 : Int32) (μ : wm_M) (Q : Option Value → wm_M → Prop) (h : wm_Wp 0 57 74 [.ref 81, .int x1, .int x2, .int x3, .int x4, .int x5, .int x6, .int (0 : Int32), .null] μ Q) : wm_Wp 0 57 71 [.ref 81, .int x1, .int x2, .int x3, .int x4, .int x5, .int x6, .null, .null] μ Q := wm_vc mo_57 (rt := some .int) (by decide +kernel) mc_57 228 h
-- WindBoat$Losses.sailPlan(II)I, the place 74
set_option maxRecDepth 100000 in
set_option maxHeartbeats 8000000 in
theorem f_57_74 (x1 : Int32) (x2 : Int32) (x3 : Int32) (x4 : Int32) (x5 : Int32) (x6 : Int32) (x7 : Int32) (μ : wm_M) (Q : Option Value → wm_M → Prop) (h : (vp_in x1 8 ∧ (((μ.1 83 (x1).toNatClampNeg) ≤ x7 → wm_Wp 0 57 194 [.null, .null, .null, .null, .null, .null, .int x6, .null, .null] μ Q) ∧ (¬ (μ.1 83 (x1).toNatClampNeg) ≤ x7 → (vp_in ((x1 * (121 : Int32)) + x7) 968 ∧ wm_Wp 0 57 99 [.ref 81, .int x1, .int x2, .int x3, .int x4, .int x5, .int x6, .int x7, .int (μ.1 82 (((x1 * (121 : Int32)) + x7)).toNatClampNeg)] μ Q))))) : wm_Wp 0 57 74 [.ref 81, .int x1, .int x2, .int x3, .int x4, .int x5, .int x6, .int x7, .null] μ Q := wm_vc mo_57 (rt := some .int) (by decide +kernel) mc_57 228 h
-- WindBoat$Losses.sailPlan(II)I, the place 99
set_option maxRecDepth 100000 in
set_option maxHeartbeats 8000000 in
theorem f_57_99 (x1 : Int32) (x2 : Int32) (x3 : Int32) (x4 : Int32) (x5 : Int32) (x6 : Int32) (x7 : Int32) (x8 : Int32) (μ : wm_M) (Q : Option Value → wm_M → Prop) (h : (¬ (10 : Int32) = 0 ∧ wm_OkI 0 181 [.int x4, .int (x8 / (10 : Int32))] μ (fun r2 μ1 => wm_Wp 0 57 114 [.ref 81, .int x1, .int x2, .int x3, .null, .int x5, .int (x6 + r2), .int x7, .int x8] μ1 Q))) : wm_Wp 0 57 99 [.ref 81, .int x1, .int x2, .int x3, .int x4, .int x5, .int x6, .int x7, .int x8] μ Q := wm_vc mo_57 (rt := some .int) (by decide +kernel) mc_57 228 h
-- WindBoat$Losses.sailPlan(II)I, the place 114
set_option maxRecDepth 100000 in
set_option maxHeartbeats 8000000 in
theorem f_57_114 (x1 : Int32) (x2 : Int32) (x3 : Int32) (x5 : Int32) (x6 : Int32) (x7 : Int32) (x8 : Int32) (μ : wm_M) (Q : Option Value → wm_M → Prop) (h : (¬ (10 : Int32) = 0 ∧ ((x3 = (x8 - x8 / (10 : Int32) * (10 : Int32)) → (¬ (10 : Int32) = 0 ∧ (¬ (10 : Int32) = 0 ∧ wm_OkI 0 23 [.ref 62, .int x5, .int (x8 / (10 : Int32)), .int (x8 - x8 / (10 : Int32) * (10 : Int32)), .int (x6 + (0 : Int32))] μ (fun r2 μ1 => wm_Wp 0 57 162 [.ref 81, .int x1, .int x2, .int (x8 - x8 / (10 : Int32) * (10 : Int32)), .int (x8 / (10 : Int32)), .int x5, .int r2, .int x7, .null] μ1 Q)))) ∧ (¬ x3 = (x8 - x8 / (10 : Int32) * (10 : Int32)) → (¬ (10 : Int32) = 0 ∧ (¬ (10 : Int32) = 0 ∧ wm_OkI 0 23 [.ref 62, .int x5, .int (x8 / (10 : Int32)), .int (x8 - x8 / (10 : Int32) * (10 : Int32)), .int (x6 + x2)] μ (fun r4 μ3 => wm_Wp 0 57 162 [.ref 81, .int x1, .int x2, .int (x8 - x8 / (10 : Int32) * (10 : Int32)), .int (x8 / (10 : Int32)), .int x5, .int r4, .int x7, .null] μ3 Q))))))) : wm_Wp 0 57 114 [.ref 81, .int x1, .int x2, .int x3, .null, .int x5, .int x6, .int x7, .int x8] μ Q := wm_vc mo_57 (rt := some .int) (by decide +kernel) mc_57 228 h
-- WindBoat$Losses.sailPlan(II)I, the place 162
set_option maxRecDepth 100000 in
set_option maxHeartbeats 8000000 in
theorem f_57_162 (x1 : Int32) (x2 : Int32) (x3 : Int32) (x4 : Int32) (x5 : Int32) (x6 : Int32) (x7 : Int32) (μ : wm_M) (Q : Option Value → wm_M → Prop) (h : wm_OkI 0 182 [.int x5, .int x4] μ (fun r2 μ1 => wm_Wp 0 57 171 [.ref 81, .int x1, .int x2, .int x3, .int x4, .int r2, .int x6, .int x7, .null] μ1 Q)) : wm_Wp 0 57 162 [.ref 81, .int x1, .int x2, .int x3, .int x4, .int x5, .int x6, .int x7, .null] μ Q := wm_vc mo_57 (rt := some .int) (by decide +kernel) mc_57 228 h
-- WindBoat$Losses.sailPlan(II)I, the place 171
set_option maxRecDepth 100000 in
set_option maxHeartbeats 8000000 in
theorem f_57_171 (x1 : Int32) (x2 : Int32) (x3 : Int32) (x4 : Int32) (x5 : Int32) (x6 : Int32) (x7 : Int32) (μ : wm_M) (Q : Option Value → wm_M → Prop) (h : (((120 : Int32) < x6 → wm_Wp 0 57 184 [.null, .null, .null, .null, .null, .null, .null, .null, .null] μ Q) ∧ (¬ (120 : Int32) < x6 → ((x5 = (-1 : Int32) → wm_Wp 0 57 184 [.null, .null, .null, .null, .null, .null, .null, .null, .null] μ Q) ∧ (¬ x5 = (-1 : Int32) → wm_Wp 0 57 188 [.ref 81, .int x1, .int x2, .int x3, .int x4, .int x5, .int x6, .int x7, .null] μ Q))))) : wm_Wp 0 57 171 [.ref 81, .int x1, .int x2, .int x3, .int x4, .int x5, .int x6, .int x7, .null] μ Q := wm_vc mo_57 (rt := some .int) (by decide +kernel) mc_57 228 h
-- WindBoat$Losses.sailPlan(II)I, the place 184
set_option maxRecDepth 100000 in
set_option maxHeartbeats 8000000 in
theorem f_57_184 (μ : wm_M) (Q : Option Value → wm_M → Prop) (h : Q (some (.int (999 : Int32))) μ) : wm_Wp 0 57 184 [.null, .null, .null, .null, .null, .null, .null, .null, .null] μ Q := wm_vc mo_57 (rt := some .int) (by decide +kernel) mc_57 228 h
-- WindBoat$Losses.sailPlan(II)I, the place 188
set_option maxRecDepth 100000 in
set_option maxHeartbeats 8000000 in
theorem f_57_188 (x1 : Int32) (x2 : Int32) (x3 : Int32) (x4 : Int32) (x5 : Int32) (x6 : Int32) (x7 : Int32) (μ : wm_M) (Q : Option Value → wm_M → Prop) (h : wm_Wp 0 57 74 [.ref 81, .int x1, .int x2, .int x3, .int x4, .int x5, .int x6, .int (x7 + (1 : Int32)), .null] μ Q) : wm_Wp 0 57 188 [.ref 81, .int x1, .int x2, .int x3, .int x4, .int x5, .int x6, .int x7, .null] μ Q := wm_vc mo_57 (rt := some .int) (by decide +kernel) mc_57 228 h
-- WindBoat$Losses.sailPlan(II)I, the place 194
set_option maxRecDepth 100000 in
set_option maxHeartbeats 8000000 in
theorem f_57_194 (x6 : Int32) (μ : wm_M) (Q : Option Value → wm_M → Prop) (h : Q (some (.int x6)) μ) : wm_Wp 0 57 194 [.null, .null, .null, .null, .null, .null, .int x6, .null, .null] μ Q := wm_vc mo_57 (rt := some .int) (by decide +kernel) mc_57 228 h
-- WindBoat$Losses.share(I)I
set_option maxRecDepth 100000 in
set_option maxHeartbeats 8000000 in
theorem f_58 (a1 : Int32) (μ : wm_M) (Q : Option Value → wm_M → Prop) (h : wm_Wp 0 58 4 [.ref 81, .int a1, .int (0 : Int32), .int (0 : Int32), .null] μ Q) : wm_Ok 0 58 [.ref 81, .int a1] μ Q := wm_ent (nL := 5) (l := [.ref 81, .int a1, .null, .null, .null]) (by decide +kernel) (by decide +kernel) (by decide +kernel) rfl rfl (wm_vc mo_58 (rt := some .int) (by decide +kernel) mc_58 98 h)
-- WindBoat$Losses.share(I)I, the place 4
set_option maxRecDepth 100000 in
set_option maxHeartbeats 8000000 in
theorem f_58_4 (x1 : Int32) (x2 : Int32) (x3 : Int32) (μ : wm_M) (Q : Option Value → wm_M → Prop) (h : (((8 : Int32) ≤ x3 → wm_Wp 0 58 58 [.null, .null, .int x2, .null, .null] μ Q) ∧ (¬ (8 : Int32) ≤ x3 → (((x3 &&& x1) = (0 : Int32) → wm_OkI 0 314 [.int x3] μ (fun r2 μ1 => ((r2 = (1 : Int32) → wm_Wp 0 58 24 [.ref 81, .int x1, .int x2, .int x3, .null] μ1 Q) ∧ (¬ r2 = (1 : Int32) → wm_Wp 0 58 28 [.ref 81, .int x1, .int x2, .int x3, .null] μ1 Q)))) ∧ (¬ (x3 &&& x1) = (0 : Int32) → wm_Wp 0 58 52 [.ref 81, .int x1, .int x2, .int x3, .null] μ Q))))) : wm_Wp 0 58 4 [.ref 81, .int x1, .int x2, .int x3, .null] μ Q := wm_vc mo_58 (rt := some .int) (by decide +kernel) mc_58 98 h
-- WindBoat$Losses.share(I)I, the place 24
set_option maxRecDepth 100000 in
set_option maxHeartbeats 8000000 in
theorem f_58_24 (x1 : Int32) (x2 : Int32) (x3 : Int32) (μ : wm_M) (Q : Option Value → wm_M → Prop) (h : (vp_in x3 8 ∧ (vp_in (x3 ||| x1) 8 ∧ wm_Wp 0 58 52 [.ref 81, .int x1, .int (x2 + ((1 : Int32) * ((μ.1 84 (x3).toNatClampNeg) - (μ.1 84 ((x3 ||| x1)).toNatClampNeg)))), .int x3, .null] μ Q))) : wm_Wp 0 58 24 [.ref 81, .int x1, .int x2, .int x3, .null] μ Q := wm_vc mo_58 (rt := some .int) (by decide +kernel) mc_58 98 h
-- WindBoat$Losses.share(I)I, the place 28
set_option maxRecDepth 100000 in
set_option maxHeartbeats 8000000 in
theorem f_58_28 (x1 : Int32) (x2 : Int32) (x3 : Int32) (μ : wm_M) (Q : Option Value → wm_M → Prop) (h : (vp_in x3 8 ∧ (vp_in (x3 ||| x1) 8 ∧ wm_Wp 0 58 52 [.ref 81, .int x1, .int (x2 + ((2 : Int32) * ((μ.1 84 (x3).toNatClampNeg) - (μ.1 84 ((x3 ||| x1)).toNatClampNeg)))), .int x3, .null] μ Q))) : wm_Wp 0 58 28 [.ref 81, .int x1, .int x2, .int x3, .null] μ Q := wm_vc mo_58 (rt := some .int) (by decide +kernel) mc_58 98 h
-- WindBoat$Losses.share(I)I, the place 52
set_option maxRecDepth 100000 in
set_option maxHeartbeats 8000000 in
theorem f_58_52 (x1 : Int32) (x2 : Int32) (x3 : Int32) (μ : wm_M) (Q : Option Value → wm_M → Prop) (h : wm_Wp 0 58 4 [.ref 81, .int x1, .int x2, .int (x3 + (1 : Int32)), .null] μ Q) : wm_Wp 0 58 52 [.ref 81, .int x1, .int x2, .int x3, .null] μ Q := wm_vc mo_58 (rt := some .int) (by decide +kernel) mc_58 98 h
-- WindBoat$Losses.share(I)I, the place 58
set_option maxRecDepth 100000 in
set_option maxHeartbeats 8000000 in
theorem f_58_58 (x2 : Int32) (μ : wm_M) (Q : Option Value → wm_M → Prop) (h : Q (some (.int x2)) μ) : wm_Wp 0 58 58 [.null, .null, .int x2, .null, .null] μ Q := wm_vc mo_58 (rt := some .int) (by decide +kernel) mc_58 98 h
-- WindBoat$Rules.take(LWindBoat$Rules;)V
set_option maxRecDepth 100000 in
set_option maxHeartbeats 8000000 in
theorem f_60b (μ : wm_M) (Q : Option Value → wm_M → Prop) (h : (¬ (0 : Int32) < 0 ∧ ¬ (0 : Int32) < 0 ∧ ¬ (12 : Int32) < 0 ∧ ((0 : Int32)).toNatClampNeg + ((12 : Int32)).toNatClampNeg ≤ 12 ∧ ((0 : Int32)).toNatClampNeg + ((12 : Int32)).toNatClampNeg ≤ 12 ∧ ∀ μ1, μ1 = wm_sr μ 19 (va_cpy (μ.1 48) (μ.1 19) ((0 : Int32)).toNatClampNeg ((0 : Int32)).toNatClampNeg ((12 : Int32)).toNatClampNeg) → wm_Wp 0 60 15 [.ref 18, .ref 47] μ1 Q)) : wm_Ok 0 60 [.ref 18, .ref 47] μ Q := wm_ent (nL := 2) (l := [.ref 18, .ref 47]) (by decide +kernel) (by decide +kernel) (by decide +kernel) rfl rfl (wm_vc mo_60 (rt := none) (by decide +kernel) mc_60 132 h)
-- WindBoat$Rules.take(LWindBoat$Rules;)V, the place 15
set_option maxRecDepth 100000 in
set_option maxHeartbeats 8000000 in
theorem f_60_15b (μ : wm_M) (Q : Option Value → wm_M → Prop) (h : (¬ (0 : Int32) < 0 ∧ ¬ (0 : Int32) < 0 ∧ ¬ (12 : Int32) < 0 ∧ ((0 : Int32)).toNatClampNeg + ((12 : Int32)).toNatClampNeg ≤ 12 ∧ ((0 : Int32)).toNatClampNeg + ((12 : Int32)).toNatClampNeg ≤ 12 ∧ ∀ μ1, μ1 = wm_sr μ 20 (va_cpy (μ.1 49) (μ.1 20) ((0 : Int32)).toNatClampNeg ((0 : Int32)).toNatClampNeg ((12 : Int32)).toNatClampNeg) → wm_Wp 0 60 30 [.ref 18, .ref 47] μ1 Q)) : wm_Wp 0 60 15 [.ref 18, .ref 47] μ Q := wm_vc mo_60 (rt := none) (by decide +kernel) mc_60 132 h
-- WindBoat$Rules.take(LWindBoat$Rules;)V, the place 30
set_option maxRecDepth 100000 in
set_option maxHeartbeats 8000000 in
theorem f_60_30b (μ : wm_M) (Q : Option Value → wm_M → Prop) (h : (¬ (0 : Int32) < 0 ∧ ¬ (0 : Int32) < 0 ∧ ¬ (12 : Int32) < 0 ∧ ((0 : Int32)).toNatClampNeg + ((12 : Int32)).toNatClampNeg ≤ 12 ∧ ((0 : Int32)).toNatClampNeg + ((12 : Int32)).toNatClampNeg ≤ 12 ∧ ∀ μ1, μ1 = wm_sr μ 21 (va_cpy (μ.1 50) (μ.1 21) ((0 : Int32)).toNatClampNeg ((0 : Int32)).toNatClampNeg ((12 : Int32)).toNatClampNeg) → wm_Wp 0 60 45 [.ref 18, .ref 47] μ1 Q)) : wm_Wp 0 60 30 [.ref 18, .ref 47] μ Q := wm_vc mo_60 (rt := none) (by decide +kernel) mc_60 132 h
-- WindBoat$Rules.take(LWindBoat$Rules;)V, the place 45
set_option maxRecDepth 100000 in
set_option maxHeartbeats 8000000 in
theorem f_60_45b (μ : wm_M) (Q : Option Value → wm_M → Prop) (h : (¬ (0 : Int32) < 0 ∧ ¬ (0 : Int32) < 0 ∧ ¬ (12 : Int32) < 0 ∧ ((0 : Int32)).toNatClampNeg + ((12 : Int32)).toNatClampNeg ≤ 12 ∧ ((0 : Int32)).toNatClampNeg + ((12 : Int32)).toNatClampNeg ≤ 12 ∧ ∀ μ1, μ1 = wm_sr μ 22 (va_cpy (μ.1 51) (μ.1 22) ((0 : Int32)).toNatClampNeg ((0 : Int32)).toNatClampNeg ((12 : Int32)).toNatClampNeg) → wm_Wp 0 60 60 [.ref 18, .ref 47] μ1 Q)) : wm_Wp 0 60 45 [.ref 18, .ref 47] μ Q := wm_vc mo_60 (rt := none) (by decide +kernel) mc_60 132 h
-- WindBoat$Rules.take(LWindBoat$Rules;)V, the place 60
set_option maxRecDepth 100000 in
set_option maxHeartbeats 8000000 in
theorem f_60_60b (μ : wm_M) (Q : Option Value → wm_M → Prop) (h : (¬ (0 : Int32) < 0 ∧ ¬ (0 : Int32) < 0 ∧ ¬ (12 : Int32) < 0 ∧ ((0 : Int32)).toNatClampNeg + ((12 : Int32)).toNatClampNeg ≤ 12 ∧ ((0 : Int32)).toNatClampNeg + ((12 : Int32)).toNatClampNeg ≤ 12 ∧ ∀ μ1, μ1 = wm_sr μ 23 (va_cpy (μ.1 52) (μ.1 23) ((0 : Int32)).toNatClampNeg ((0 : Int32)).toNatClampNeg ((12 : Int32)).toNatClampNeg) → wm_Wp 0 60 75 [.ref 18, .ref 47] μ1 Q)) : wm_Wp 0 60 60 [.ref 18, .ref 47] μ Q := wm_vc mo_60 (rt := none) (by decide +kernel) mc_60 132 h
-- WindBoat$Rules.take(LWindBoat$Rules;)V, the place 75
set_option maxRecDepth 100000 in
set_option maxHeartbeats 8000000 in
theorem f_60_75b (μ : wm_M) (Q : Option Value → wm_M → Prop) (h : (¬ (0 : Int32) < 0 ∧ ¬ (0 : Int32) < 0 ∧ ¬ ((μ.1 47 6) * (120 : Int32)) < 0 ∧ ((0 : Int32)).toNatClampNeg + (((μ.1 47 6) * (120 : Int32))).toNatClampNeg ≤ 1440 ∧ ((0 : Int32)).toNatClampNeg + (((μ.1 47 6) * (120 : Int32))).toNatClampNeg ≤ 1440 ∧ ∀ μ1, μ1 = wm_sr μ 24 (va_cpy (μ.1 53) (μ.1 24) ((0 : Int32)).toNatClampNeg ((0 : Int32)).toNatClampNeg (((μ.1 47 6) * (120 : Int32))).toNatClampNeg) → wm_Wp 0 60 95 [.ref 18, .ref 47] μ1 Q)) : wm_Wp 0 60 75 [.ref 18, .ref 47] μ Q := wm_vc mo_60 (rt := none) (by decide +kernel) mc_60 132 h
-- WindBoat$Rules.take(LWindBoat$Rules;)V, the place 95
set_option maxRecDepth 100000 in
set_option maxHeartbeats 8000000 in
theorem f_60_95b (μ : wm_M) (Q : Option Value → wm_M → Prop) (h : wm_Wp 0 60 103 [.null, .null] (wm_si μ 18 6 (μ.1 47 6)) Q) : wm_Wp 0 60 95 [.ref 18, .ref 47] μ Q := wm_vc mo_60 (rt := none) (by decide +kernel) mc_60 132 h
-- WindBoat$Rules.take(LWindBoat$Rules;)V, the place 103
set_option maxRecDepth 100000 in
set_option maxHeartbeats 8000000 in
theorem f_60_103b (μ : wm_M) (Q : Option Value → wm_M → Prop) (h : Q none μ) : wm_Wp 0 60 103 [.null, .null] μ Q := wm_vc mo_60 (rt := none) (by decide +kernel) mc_60 132 h
-- WindBoat$Rules.take(LWindBoat$Rules;)V
set_option maxRecDepth 100000 in
set_option maxHeartbeats 8000000 in
theorem f_60i (μ : wm_M) (Q : Option Value → wm_M → Prop) (h : (¬ (0 : Int32) < 0 ∧ ¬ (0 : Int32) < 0 ∧ ¬ (12 : Int32) < 0 ∧ ((0 : Int32)).toNatClampNeg + ((12 : Int32)).toNatClampNeg ≤ 12 ∧ ((0 : Int32)).toNatClampNeg + ((12 : Int32)).toNatClampNeg ≤ 12 ∧ ∀ μ1, μ1 = wm_sr μ 48 (va_cpy (μ.1 19) (μ.1 48) ((0 : Int32)).toNatClampNeg ((0 : Int32)).toNatClampNeg ((12 : Int32)).toNatClampNeg) → wm_Wp 0 60 15 [.ref 47, .ref 18] μ1 Q)) : wm_Ok 0 60 [.ref 47, .ref 18] μ Q := wm_ent (nL := 2) (l := [.ref 47, .ref 18]) (by decide +kernel) (by decide +kernel) (by decide +kernel) rfl rfl (wm_vc mo_60 (rt := none) (by decide +kernel) mc_60 132 h)
-- WindBoat$Rules.take(LWindBoat$Rules;)V, the place 15
set_option maxRecDepth 100000 in
set_option maxHeartbeats 8000000 in
theorem f_60_15i (μ : wm_M) (Q : Option Value → wm_M → Prop) (h : (¬ (0 : Int32) < 0 ∧ ¬ (0 : Int32) < 0 ∧ ¬ (12 : Int32) < 0 ∧ ((0 : Int32)).toNatClampNeg + ((12 : Int32)).toNatClampNeg ≤ 12 ∧ ((0 : Int32)).toNatClampNeg + ((12 : Int32)).toNatClampNeg ≤ 12 ∧ ∀ μ1, μ1 = wm_sr μ 49 (va_cpy (μ.1 20) (μ.1 49) ((0 : Int32)).toNatClampNeg ((0 : Int32)).toNatClampNeg ((12 : Int32)).toNatClampNeg) → wm_Wp 0 60 30 [.ref 47, .ref 18] μ1 Q)) : wm_Wp 0 60 15 [.ref 47, .ref 18] μ Q := wm_vc mo_60 (rt := none) (by decide +kernel) mc_60 132 h
-- WindBoat$Rules.take(LWindBoat$Rules;)V, the place 30
set_option maxRecDepth 100000 in
set_option maxHeartbeats 8000000 in
theorem f_60_30i (μ : wm_M) (Q : Option Value → wm_M → Prop) (h : (¬ (0 : Int32) < 0 ∧ ¬ (0 : Int32) < 0 ∧ ¬ (12 : Int32) < 0 ∧ ((0 : Int32)).toNatClampNeg + ((12 : Int32)).toNatClampNeg ≤ 12 ∧ ((0 : Int32)).toNatClampNeg + ((12 : Int32)).toNatClampNeg ≤ 12 ∧ ∀ μ1, μ1 = wm_sr μ 50 (va_cpy (μ.1 21) (μ.1 50) ((0 : Int32)).toNatClampNeg ((0 : Int32)).toNatClampNeg ((12 : Int32)).toNatClampNeg) → wm_Wp 0 60 45 [.ref 47, .ref 18] μ1 Q)) : wm_Wp 0 60 30 [.ref 47, .ref 18] μ Q := wm_vc mo_60 (rt := none) (by decide +kernel) mc_60 132 h
-- WindBoat$Rules.take(LWindBoat$Rules;)V, the place 45
set_option maxRecDepth 100000 in
set_option maxHeartbeats 8000000 in
theorem f_60_45i (μ : wm_M) (Q : Option Value → wm_M → Prop) (h : (¬ (0 : Int32) < 0 ∧ ¬ (0 : Int32) < 0 ∧ ¬ (12 : Int32) < 0 ∧ ((0 : Int32)).toNatClampNeg + ((12 : Int32)).toNatClampNeg ≤ 12 ∧ ((0 : Int32)).toNatClampNeg + ((12 : Int32)).toNatClampNeg ≤ 12 ∧ ∀ μ1, μ1 = wm_sr μ 51 (va_cpy (μ.1 22) (μ.1 51) ((0 : Int32)).toNatClampNeg ((0 : Int32)).toNatClampNeg ((12 : Int32)).toNatClampNeg) → wm_Wp 0 60 60 [.ref 47, .ref 18] μ1 Q)) : wm_Wp 0 60 45 [.ref 47, .ref 18] μ Q := wm_vc mo_60 (rt := none) (by decide +kernel) mc_60 132 h
-- WindBoat$Rules.take(LWindBoat$Rules;)V, the place 60
set_option maxRecDepth 100000 in
set_option maxHeartbeats 8000000 in
theorem f_60_60i (μ : wm_M) (Q : Option Value → wm_M → Prop) (h : (¬ (0 : Int32) < 0 ∧ ¬ (0 : Int32) < 0 ∧ ¬ (12 : Int32) < 0 ∧ ((0 : Int32)).toNatClampNeg + ((12 : Int32)).toNatClampNeg ≤ 12 ∧ ((0 : Int32)).toNatClampNeg + ((12 : Int32)).toNatClampNeg ≤ 12 ∧ ∀ μ1, μ1 = wm_sr μ 52 (va_cpy (μ.1 23) (μ.1 52) ((0 : Int32)).toNatClampNeg ((0 : Int32)).toNatClampNeg ((12 : Int32)).toNatClampNeg) → wm_Wp 0 60 75 [.ref 47, .ref 18] μ1 Q)) : wm_Wp 0 60 60 [.ref 47, .ref 18] μ Q := wm_vc mo_60 (rt := none) (by decide +kernel) mc_60 132 h
-- WindBoat$Rules.take(LWindBoat$Rules;)V, the place 75
set_option maxRecDepth 100000 in
set_option maxHeartbeats 8000000 in
theorem f_60_75i (μ : wm_M) (Q : Option Value → wm_M → Prop) (h : (¬ (0 : Int32) < 0 ∧ ¬ (0 : Int32) < 0 ∧ ¬ ((μ.1 18 6) * (120 : Int32)) < 0 ∧ ((0 : Int32)).toNatClampNeg + (((μ.1 18 6) * (120 : Int32))).toNatClampNeg ≤ 1440 ∧ ((0 : Int32)).toNatClampNeg + (((μ.1 18 6) * (120 : Int32))).toNatClampNeg ≤ 1440 ∧ ∀ μ1, μ1 = wm_sr μ 53 (va_cpy (μ.1 24) (μ.1 53) ((0 : Int32)).toNatClampNeg ((0 : Int32)).toNatClampNeg (((μ.1 18 6) * (120 : Int32))).toNatClampNeg) → wm_Wp 0 60 95 [.ref 47, .ref 18] μ1 Q)) : wm_Wp 0 60 75 [.ref 47, .ref 18] μ Q := wm_vc mo_60 (rt := none) (by decide +kernel) mc_60 132 h
-- WindBoat$Rules.take(LWindBoat$Rules;)V, the place 95
set_option maxRecDepth 100000 in
set_option maxHeartbeats 8000000 in
theorem f_60_95i (μ : wm_M) (Q : Option Value → wm_M → Prop) (h : wm_Wp 0 60 103 [.null, .null] (wm_si μ 47 6 (μ.1 18 6)) Q) : wm_Wp 0 60 95 [.ref 47, .ref 18] μ Q := wm_vc mo_60 (rt := none) (by decide +kernel) mc_60 132 h
-- WindBoat$Rules.take(LWindBoat$Rules;)V, the place 103
set_option maxRecDepth 100000 in
set_option maxHeartbeats 8000000 in
theorem f_60_103i (μ : wm_M) (Q : Option Value → wm_M → Prop) (h : Q none μ) : wm_Wp 0 60 103 [.null, .null] μ Q := wm_vc mo_60 (rt := none) (by decide +kernel) mc_60 132 h
