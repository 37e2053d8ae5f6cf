/-! ===== what each block of code asks (printed by wip/gen/genvc.py) ===== -/
-- WindBoatModel.status(I)I
set_option maxRecDepth 100000 in
set_option maxHeartbeats 8000000 in
theorem f_310 (a1 : Int32) (μ : wm_M) (Q : Option Value → wm_M → Prop) (h : wm_OkI 0 184 [.int a1, .int (-8 : Int32), .int (-2 : Int32)] μ (fun r2 μ1 => ((r2 = (0 : Int32) → wm_Wp 0 310 21 [.ref 89, .null] μ1 Q) ∧ (¬ r2 = (0 : Int32) → wm_Wp 0 310 11 [.ref 89, .int a1] μ1 Q)))) : wm_Ok 0 310 [.ref 89, .int a1] μ Q := wm_ent (nL := 2) (l := [.ref 89, .int a1]) (by decide +kernel) (by decide +kernel) (by decide +kernel) rfl rfl (wm_vc mo_310 (rt := some .int) (by decide +kernel) mc_310 50 h)
-- WindBoatModel.status(I)I, the place 11
set_option maxRecDepth 100000 in
set_option maxHeartbeats 8000000 in
theorem f_310_11 (x1 : Int32) (μ : wm_M) (Q : Option Value → wm_M → Prop) (h : (vp_in (-x1) 9 ∧ Q (some (.int (μ.1 90 ((-x1)).toNatClampNeg))) μ)) : wm_Wp 0 310 11 [.ref 89, .int x1] μ Q := wm_vc mo_310 (rt := some .int) (by decide +kernel) mc_310 50 h
-- WindBoatModel.status(I)I, the place 21
set_option maxRecDepth 100000 in
set_option maxHeartbeats 8000000 in
theorem f_310_21 (μ : wm_M) (Q : Option Value → wm_M → Prop) (h : wm_OkI 0 185 [.ref 89, .int (-7 : Int32)] μ (fun r2 μ1 => Q (some (.int r2)) μ1)) : wm_Wp 0 310 21 [.ref 89, .null] μ Q := wm_vc mo_310 (rt := some .int) (by decide +kernel) mc_310 50 h
-- java/lang/Integer.bitCount(I)I
set_option maxRecDepth 100000 in
set_option maxHeartbeats 8000000 in
theorem f_314 (a0 : Int32) (μ : wm_M) (Q : Option Value → wm_M → Prop) (h : wm_Wp 0 314 24 [.int (((a0 - (((a0).toUInt32 >>> (((1 : Int32)).toUInt32 &&& Int32.toUInt32 31)).toInt32 &&& (1431655765 : Int32))) &&& (858993459 : Int32)) + ((((a0 - (((a0).toUInt32 >>> (((1 : Int32)).toUInt32 &&& Int32.toUInt32 31)).toInt32 &&& (1431655765 : Int32)))).toUInt32 >>> (((2 : Int32)).toUInt32 &&& Int32.toUInt32 31)).toInt32 &&& (858993459 : Int32)))] μ Q) : wm_Ok 0 314 [.int a0] μ Q := wm_ent (nL := 1) (l := [.int a0]) (by decide +kernel) (by decide +kernel) (by decide +kernel) rfl rfl (wm_vc mo_314 (rt := some .int) (by decide +kernel) mc_314 104 h)
-- java/lang/Integer.bitCount(I)I, the place 24
set_option maxRecDepth 100000 in
set_option maxHeartbeats 8000000 in
theorem f_314_24 (x0 : Int32) (μ : wm_M) (Q : Option Value → wm_M → Prop) (h : wm_Wp 0 314 41 [.int (((x0 + ((x0).toUInt32 >>> (((4 : Int32)).toUInt32 &&& Int32.toUInt32 31)).toInt32) &&& (252645135 : Int32)) + ((((x0 + ((x0).toUInt32 >>> (((4 : Int32)).toUInt32 &&& Int32.toUInt32 31)).toInt32) &&& (252645135 : Int32))).toUInt32 >>> (((8 : Int32)).toUInt32 &&& Int32.toUInt32 31)).toInt32)] μ Q) : wm_Wp 0 314 24 [.int x0] μ Q := wm_vc mo_314 (rt := some .int) (by decide +kernel) mc_314 104 h
-- java/lang/Integer.bitCount(I)I, the place 41
set_option maxRecDepth 100000 in
set_option maxHeartbeats 8000000 in
theorem f_314_41 (x0 : Int32) (μ : wm_M) (Q : Option Value → wm_M → Prop) (h : Q (some (.int ((x0 + ((x0).toUInt32 >>> (((16 : Int32)).toUInt32 &&& Int32.toUInt32 31)).toInt32) &&& (63 : Int32)))) μ) : wm_Wp 0 314 41 [.int x0] μ Q := wm_vc mo_314 (rt := some .int) (by decide +kernel) mc_314 104 h
-- java/util/Arrays.fill([JJ)V
set_option maxRecDepth 100000 in
set_option maxHeartbeats 8000000 in
theorem f_342_87 (a1 : Int64) (μ : wm_M) (Q : Option Value → wm_M → Prop) (h : wm_Wp 0 342 6 [.ref 87, .long a1, .null, .int (0 : Int32), .int (Int32.ofNat 3)] μ Q) : wm_Ok 0 342 [.ref 87, .long a1] μ Q := wm_ent (nL := 5) (l := [.ref 87, .long a1, .null, .null, .null]) (by decide +kernel) (by decide +kernel) (by decide +kernel) rfl rfl (wm_vc mo_342 (rt := none) (by decide +kernel) mc_342 50 h)
-- java/util/Arrays.fill([JJ)V, the place 6
set_option maxRecDepth 100000 in
set_option maxHeartbeats 8000000 in
theorem f_342_6_87 (x1 : Int64) (x3 : Int32) (x4 : Int32) (μ : wm_M) (Q : Option Value → wm_M → Prop) (h : ((x4 ≤ x3 → wm_Wp 0 342 22 [.null, .null, .null, .null, .null] μ Q) ∧ (¬ x4 ≤ x3 → (vp_in x3 3 ∧ wm_Wp 0 342 16 [.ref 87, .long x1, .null, .int x3, .int x4] (wm_sl μ 87 (x3).toNatClampNeg x1) Q)))) : wm_Wp 0 342 6 [.ref 87, .long x1, .null, .int x3, .int x4] μ Q := wm_vc mo_342 (rt := none) (by decide +kernel) mc_342 50 h
-- java/util/Arrays.fill([JJ)V, the place 16
set_option maxRecDepth 100000 in
set_option maxHeartbeats 8000000 in
theorem f_342_16_87 (x1 : Int64) (x3 : Int32) (x4 : Int32) (μ : wm_M) (Q : Option Value → wm_M → Prop) (h : wm_Wp 0 342 6 [.ref 87, .long x1, .null, .int (x3 + (1 : Int32)), .int x4] μ Q) : wm_Wp 0 342 16 [.ref 87, .long x1, .null, .int x3, .int x4] μ Q := wm_vc mo_342 (rt := none) (by decide +kernel) mc_342 50 h
-- java/util/Arrays.fill([JJ)V, the place 22
set_option maxRecDepth 100000 in
set_option maxHeartbeats 8000000 in
theorem f_342_22_87 (μ : wm_M) (Q : Option Value → wm_M → Prop) (h : Q none μ) : wm_Wp 0 342 22 [.null, .null, .null, .null, .null] μ Q := wm_vc mo_342 (rt := none) (by decide +kernel) mc_342 50 h
-- java/util/Arrays.fill([II)V
set_option maxRecDepth 100000 in
set_option maxHeartbeats 8000000 in
theorem f_343_70 (a1 : Int32) (μ : wm_M) (Q : Option Value → wm_M → Prop) (h : wm_Wp 0 343 5 [.ref 70, .int a1, .int (0 : Int32), .int (Int32.ofNat 864)] μ Q) : wm_Ok 0 343 [.ref 70, .int a1] μ Q := wm_ent (nL := 4) (l := [.ref 70, .int a1, .null, .null]) (by decide +kernel) (by decide +kernel) (by decide +kernel) rfl rfl (wm_vc mo_343 (rt := none) (by decide +kernel) mc_343 50 h)
-- java/util/Arrays.fill([II)V, the place 5
set_option maxRecDepth 100000 in
set_option maxHeartbeats 8000000 in
theorem f_343_5_70 (x1 : Int32) (x2 : Int32) (x3 : Int32) (μ : wm_M) (Q : Option Value → wm_M → Prop) (h : ((x3 ≤ x2 → wm_Wp 0 343 20 [.null, .null, .null, .null] μ Q) ∧ (¬ x3 ≤ x2 → (vp_in x2 864 ∧ wm_Wp 0 343 14 [.ref 70, .int x1, .int x2, .int x3] (wm_si μ 70 (x2).toNatClampNeg x1) Q)))) : wm_Wp 0 343 5 [.ref 70, .int x1, .int x2, .int x3] μ Q := wm_vc mo_343 (rt := none) (by decide +kernel) mc_343 50 h
-- java/util/Arrays.fill([II)V, the place 14
set_option maxRecDepth 100000 in
set_option maxHeartbeats 8000000 in
theorem f_343_14_70 (x1 : Int32) (x2 : Int32) (x3 : Int32) (μ : wm_M) (Q : Option Value → wm_M → Prop) (h : wm_Wp 0 343 5 [.ref 70, .int x1, .int (x2 + (1 : Int32)), .int x3] μ Q) : wm_Wp 0 343 14 [.ref 70, .int x1, .int x2, .int x3] μ Q := wm_vc mo_343 (rt := none) (by decide +kernel) mc_343 50 h
-- java/util/Arrays.fill([II)V, the place 20
set_option maxRecDepth 100000 in
set_option maxHeartbeats 8000000 in
theorem f_343_20_70 (μ : wm_M) (Q : Option Value → wm_M → Prop) (h : Q none μ) : wm_Wp 0 343 20 [.null, .null, .null, .null] μ Q := wm_vc mo_343 (rt := none) (by decide +kernel) mc_343 50 h
-- java/util/Arrays.fill([II)V
set_option maxRecDepth 100000 in
set_option maxHeartbeats 8000000 in
theorem f_343_73 (a1 : Int32) (μ : wm_M) (Q : Option Value → wm_M → Prop) (h : wm_Wp 0 343 5 [.ref 73, .int a1, .int (0 : Int32), .int (Int32.ofNat 121)] μ Q) : wm_Ok 0 343 [.ref 73, .int a1] μ Q := wm_ent (nL := 4) (l := [.ref 73, .int a1, .null, .null]) (by decide +kernel) (by decide +kernel) (by decide +kernel) rfl rfl (wm_vc mo_343 (rt := none) (by decide +kernel) mc_343 50 h)
-- java/util/Arrays.fill([II)V, the place 5
set_option maxRecDepth 100000 in
set_option maxHeartbeats 8000000 in
theorem f_343_5_73 (x1 : Int32) (x2 : Int32) (x3 : Int32) (μ : wm_M) (Q : Option Value → wm_M → Prop) (h : ((x3 ≤ x2 → wm_Wp 0 343 20 [.null, .null, .null, .null] μ Q) ∧ (¬ x3 ≤ x2 → (vp_in x2 121 ∧ wm_Wp 0 343 14 [.ref 73, .int x1, .int x2, .int x3] (wm_si μ 73 (x2).toNatClampNeg x1) Q)))) : wm_Wp 0 343 5 [.ref 73, .int x1, .int x2, .int x3] μ Q := wm_vc mo_343 (rt := none) (by decide +kernel) mc_343 50 h
-- java/util/Arrays.fill([II)V, the place 14
set_option maxRecDepth 100000 in
set_option maxHeartbeats 8000000 in
theorem f_343_14_73 (x1 : Int32) (x2 : Int32) (x3 : Int32) (μ : wm_M) (Q : Option Value → wm_M → Prop) (h : wm_Wp 0 343 5 [.ref 73, .int x1, .int (x2 + (1 : Int32)), .int x3] μ Q) : wm_Wp 0 343 14 [.ref 73, .int x1, .int x2, .int x3] μ Q := wm_vc mo_343 (rt := none) (by decide +kernel) mc_343 50 h
-- java/util/Arrays.fill([II)V, the place 20
set_option maxRecDepth 100000 in
set_option maxHeartbeats 8000000 in
theorem f_343_20_73 (μ : wm_M) (Q : Option Value → wm_M → Prop) (h : Q none μ) : wm_Wp 0 343 20 [.null, .null, .null, .null] μ Q := wm_vc mo_343 (rt := none) (by decide +kernel) mc_343 50 h
-- java/util/Arrays.fill([II)V
set_option maxRecDepth 100000 in
set_option maxHeartbeats 8000000 in
theorem f_343_85 (a1 : Int32) (μ : wm_M) (Q : Option Value → wm_M → Prop) (h : wm_Wp 0 343 5 [.ref 85, .int a1, .int (0 : Int32), .int (Int32.ofNat 12)] μ Q) : wm_Ok 0 343 [.ref 85, .int a1] μ Q := wm_ent (nL := 4) (l := [.ref 85, .int a1, .null, .null]) (by decide +kernel) (by decide +kernel) (by decide +kernel) rfl rfl (wm_vc mo_343 (rt := none) (by decide +kernel) mc_343 50 h)
-- java/util/Arrays.fill([II)V, the place 5
set_option maxRecDepth 100000 in
set_option maxHeartbeats 8000000 in
theorem f_343_5_85 (x1 : Int32) (x2 : Int32) (x3 : Int32) (μ : wm_M) (Q : Option Value → wm_M → Prop) (h : ((x3 ≤ x2 → wm_Wp 0 343 20 [.null, .null, .null, .null] μ Q) ∧ (¬ x3 ≤ x2 → (vp_in x2 12 ∧ wm_Wp 0 343 14 [.ref 85, .int x1, .int x2, .int x3] (wm_si μ 85 (x2).toNatClampNeg x1) Q)))) : wm_Wp 0 343 5 [.ref 85, .int x1, .int x2, .int x3] μ Q := wm_vc mo_343 (rt := none) (by decide +kernel) mc_343 50 h
-- java/util/Arrays.fill([II)V, the place 14
set_option maxRecDepth 100000 in
set_option maxHeartbeats 8000000 in
theorem f_343_14_85 (x1 : Int32) (x2 : Int32) (x3 : Int32) (μ : wm_M) (Q : Option Value → wm_M → Prop) (h : wm_Wp 0 343 5 [.ref 85, .int x1, .int (x2 + (1 : Int32)), .int x3] μ Q) : wm_Wp 0 343 14 [.ref 85, .int x1, .int x2, .int x3] μ Q := wm_vc mo_343 (rt := none) (by decide +kernel) mc_343 50 h
-- java/util/Arrays.fill([II)V, the place 20
set_option maxRecDepth 100000 in
set_option maxHeartbeats 8000000 in
theorem f_343_20_85 (μ : wm_M) (Q : Option Value → wm_M → Prop) (h : Q none μ) : wm_Wp 0 343 20 [.null, .null, .null, .null] μ Q := wm_vc mo_343 (rt := none) (by decide +kernel) mc_343 50 h
