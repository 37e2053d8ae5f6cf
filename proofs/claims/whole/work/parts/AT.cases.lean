/-! The law: its cases and its loop; printed by wip/gen/genlaw.py. -/
set_option maxRecDepth 100000 in
set_option maxHeartbeats 8000000 in
theorem fl_18 {L : Nat} {xs : Nat → Int32} (x3 : Int32) (μ : wm_M) (h : (¬ L + 1 = 0 ∧ ((((Int32.ofNat (L + 1 - 1)) - (4 : Int32)) < x3 → wl_W L xs 1591 [.null, .null, .null, .null] μ) ∧ (¬ ((Int32.ofNat (L + 1 - 1)) - (4 : Int32)) < x3 → (¬ L + 1 = 0 ∧ vp_in x3 (L + 1 - 1) ∧ (((((xs (x3).toNatClampNeg) &&& (63 : Int32))).toInt < 0 ∨ 44 < (((xs (x3).toNatClampNeg) &&& (63 : Int32))).toInt → wl_W L xs 1585 [.ref 3000, .ref 0, .ref 89, .int x3] μ) ∧ (((((xs (x3).toNatClampNeg) &&& (63 : Int32))).toInt = 0 → wl_W L xs 228 [.ref 3000, .ref 0, .ref 89, .int x3] μ) ∧ (((((xs (x3).toNatClampNeg) &&& (63 : Int32))).toInt = 1 → wl_W L xs 271 [.ref 3000, .ref 0, .ref 89, .int x3] μ) ∧ (((((xs (x3).toNatClampNeg) &&& (63 : Int32))).toInt = 2 → wl_W L xs 314 [.ref 3000, .ref 0, .ref 89, .int x3] μ) ∧ (((((xs (x3).toNatClampNeg) &&& (63 : Int32))).toInt = 3 → wl_W L xs 357 [.ref 3000, .ref 0, .ref 89, .int x3] μ) ∧ (((((xs (x3).toNatClampNeg) &&& (63 : Int32))).toInt = 4 → wl_W L xs 380 [.ref 3000, .ref 0, .ref 89, .int x3] μ) ∧ (((((xs (x3).toNatClampNeg) &&& (63 : Int32))).toInt = 5 → wl_W L xs 423 [.ref 3000, .ref 0, .ref 89, .int x3] μ) ∧ (((((xs (x3).toNatClampNeg) &&& (63 : Int32))).toInt = 6 → wl_W L xs 466 [.ref 3000, .ref 0, .ref 89, .int x3] μ) ∧ (((((xs (x3).toNatClampNeg) &&& (63 : Int32))).toInt = 7 → wl_W L xs 509 [.ref 3000, .ref 0, .ref 89, .int x3] μ) ∧ (((((xs (x3).toNatClampNeg) &&& (63 : Int32))).toInt = 8 → wl_W L xs 532 [.ref 3000, .ref 0, .ref 89, .int x3] μ) ∧ (((((xs (x3).toNatClampNeg) &&& (63 : Int32))).toInt = 9 → wl_W L xs 575 [.ref 3000, .ref 0, .ref 89, .int x3] μ) ∧ (((((xs (x3).toNatClampNeg) &&& (63 : Int32))).toInt = 10 → wl_W L xs 608 [.ref 3000, .ref 0, .ref 89, .int x3] μ) ∧ (((((xs (x3).toNatClampNeg) &&& (63 : Int32))).toInt = 11 → wl_W L xs 641 [.ref 3000, .ref 0, .ref 89, .int x3] μ) ∧ (((((xs (x3).toNatClampNeg) &&& (63 : Int32))).toInt = 12 → wl_W L xs 654 [.ref 3000, .ref 0, .ref 89, .int x3] μ) ∧ (((((xs (x3).toNatClampNeg) &&& (63 : Int32))).toInt = 13 → wl_W L xs 687 [.ref 3000, .ref 0, .ref 89, .int x3] μ) ∧ (((((xs (x3).toNatClampNeg) &&& (63 : Int32))).toInt = 14 → wl_W L xs 720 [.ref 3000, .ref 0, .ref 89, .int x3] μ) ∧ (((((xs (x3).toNatClampNeg) &&& (63 : Int32))).toInt = 15 → wl_W L xs 733 [.ref 3000, .ref 0, .ref 89, .int x3] μ) ∧ (((((xs (x3).toNatClampNeg) &&& (63 : Int32))).toInt = 16 → wl_W L xs 766 [.ref 3000, .ref 0, .ref 89, .int x3] μ) ∧ (((((xs (x3).toNatClampNeg) &&& (63 : Int32))).toInt = 17 → wl_W L xs 809 [.ref 3000, .ref 0, .ref 89, .int x3] μ) ∧ (((((xs (x3).toNatClampNeg) &&& (63 : Int32))).toInt = 18 → wl_W L xs 852 [.ref 3000, .ref 0, .ref 89, .int x3] μ) ∧ (((((xs (x3).toNatClampNeg) &&& (63 : Int32))).toInt = 19 → wl_W L xs 895 [.ref 3000, .ref 0, .ref 89, .int x3] μ) ∧ (((((xs (x3).toNatClampNeg) &&& (63 : Int32))).toInt = 20 → wl_W L xs 938 [.ref 3000, .ref 0, .ref 89, .int x3] μ) ∧ (((((xs (x3).toNatClampNeg) &&& (63 : Int32))).toInt = 21 → wl_W L xs 971 [.ref 3000, .ref 0, .ref 89, .int x3] μ) ∧ (((((xs (x3).toNatClampNeg) &&& (63 : Int32))).toInt = 22 → wl_W L xs 1004 [.ref 3000, .ref 0, .ref 89, .int x3] μ) ∧ (((((xs (x3).toNatClampNeg) &&& (63 : Int32))).toInt = 23 → wl_W L xs 1037 [.ref 3000, .ref 0, .ref 89, .int x3] μ) ∧ (((((xs (x3).toNatClampNeg) &&& (63 : Int32))).toInt = 24 → wl_W L xs 1070 [.ref 3000, .ref 0, .ref 89, .int x3] μ) ∧ (((((xs (x3).toNatClampNeg) &&& (63 : Int32))).toInt = 25 → wl_W L xs 1104 [.ref 3000, .ref 0, .ref 89, .int x3] μ) ∧ (((((xs (x3).toNatClampNeg) &&& (63 : Int32))).toInt = 26 → wl_W L xs 1118 [.ref 3000, .ref 0, .ref 89, .int x3] μ) ∧ (((((xs (x3).toNatClampNeg) &&& (63 : Int32))).toInt = 27 → wl_W L xs 1141 [.ref 3000, .ref 0, .ref 89, .int x3] μ) ∧ (((((xs (x3).toNatClampNeg) &&& (63 : Int32))).toInt = 28 → wl_W L xs 1184 [.ref 3000, .ref 0, .ref 89, .int x3] μ) ∧ (((((xs (x3).toNatClampNeg) &&& (63 : Int32))).toInt = 29 → wl_W L xs 1197 [.ref 3000, .ref 0, .ref 89, .int x3] μ) ∧ (((((xs (x3).toNatClampNeg) &&& (63 : Int32))).toInt = 30 → wl_W L xs 1230 [.ref 3000, .ref 0, .ref 89, .int x3] μ) ∧ (((((xs (x3).toNatClampNeg) &&& (63 : Int32))).toInt = 31 → wl_W L xs 1253 [.ref 3000, .ref 0, .ref 89, .int x3] μ) ∧ (((((xs (x3).toNatClampNeg) &&& (63 : Int32))).toInt = 32 → wl_W L xs 1276 [.ref 3000, .ref 0, .ref 89, .int x3] μ) ∧ (((((xs (x3).toNatClampNeg) &&& (63 : Int32))).toInt = 33 → wl_W L xs 1299 [.ref 3000, .ref 0, .ref 89, .int x3] μ) ∧ (((((xs (x3).toNatClampNeg) &&& (63 : Int32))).toInt = 34 → wl_W L xs 1322 [.ref 3000, .ref 0, .ref 89, .int x3] μ) ∧ (((((xs (x3).toNatClampNeg) &&& (63 : Int32))).toInt = 35 → wl_W L xs 1345 [.ref 3000, .ref 0, .ref 89, .int x3] μ) ∧ (((((xs (x3).toNatClampNeg) &&& (63 : Int32))).toInt = 36 → wl_W L xs 1378 [.ref 3000, .ref 0, .ref 89, .int x3] μ) ∧ (((((xs (x3).toNatClampNeg) &&& (63 : Int32))).toInt = 37 → wl_W L xs 1401 [.ref 3000, .ref 0, .ref 89, .int x3] μ) ∧ (((((xs (x3).toNatClampNeg) &&& (63 : Int32))).toInt = 38 → wl_W L xs 1414 [.ref 3000, .ref 0, .ref 89, .int x3] μ) ∧ (((((xs (x3).toNatClampNeg) &&& (63 : Int32))).toInt = 39 → wl_W L xs 1427 [.ref 3000, .ref 0, .ref 89, .int x3] μ) ∧ (((((xs (x3).toNatClampNeg) &&& (63 : Int32))).toInt = 40 → wl_W L xs 1450 [.ref 3000, .ref 0, .ref 89, .int x3] μ) ∧ (((((xs (x3).toNatClampNeg) &&& (63 : Int32))).toInt = 41 → wl_W L xs 1483 [.ref 3000, .ref 0, .ref 89, .int x3] μ) ∧ (((((xs (x3).toNatClampNeg) &&& (63 : Int32))).toInt = 42 → wl_W L xs 1496 [.ref 3000, .ref 0, .ref 89, .int x3] μ) ∧ (((((xs (x3).toNatClampNeg) &&& (63 : Int32))).toInt = 43 → wl_W L xs 1519 [.ref 3000, .ref 0, .ref 89, .int x3] μ) ∧ (((((xs (x3).toNatClampNeg) &&& (63 : Int32))).toInt = 44 → wl_W L xs 1562 [.ref 3000, .ref 0, .ref 89, .int x3] μ) ∧ True))))))))))))))))))))))))))))))))))))))))))))))))))) : wl_W L xs 18 [.ref 3000, .ref 0, .ref 89, .int x3] μ := wl_vc ml_ok ml_c 400 h
set_option maxRecDepth 100000 in
set_option maxHeartbeats 8000000 in
theorem fl_1585 {L : Nat} {xs : Nat → Int32} (x3 : Int32) (μ : wm_M) (h : wl_W L xs 18 [.ref 3000, .ref 0, .ref 89, .int (x3 + (4 : Int32))] μ) : wl_W L xs 1585 [.ref 3000, .ref 0, .ref 89, .int x3] μ := wl_vc ml_ok ml_c 400 h
set_option maxRecDepth 100000 in
set_option maxHeartbeats 8000000 in
theorem fl_1591 {L : Nat} {xs : Nat → Int32} (μ : wm_M) (h : (some (Value.int (1 : Int32)) : Option Value) = some (.int 1)) : wl_W L xs 1591 [.null, .null, .null, .null] μ := wl_vc ml_ok ml_c 400 h
set_option maxRecDepth 100000 in
set_option maxHeartbeats 8000000 in
theorem fl_228 {L : Nat} {xs : Nat → Int32} (x3 : Int32) (μ : wm_M) (h : (¬ L + 1 = 0 ∧ vp_in (x3 + (1 : Int32)) (L + 1 - 1) ∧ (¬ L + 1 = 0 ∧ vp_in (x3 + (2 : Int32)) (L + 1 - 1) ∧ (¬ L + 1 = 0 ∧ vp_in (x3 + (3 : Int32)) (L + 1 - 1) ∧ wm_OkI 0 116 [.ref 0, .int (xs ((x3 + (1 : Int32))).toNatClampNeg), .int (xs ((x3 + (2 : Int32))).toNatClampNeg), .int (xs ((x3 + (3 : Int32))).toNatClampNeg)] μ (fun r2 μ1 => (¬ L + 1 = 0 ∧ vp_in (x3 + (1 : Int32)) (L + 1 - 1) ∧ (¬ L + 1 = 0 ∧ vp_in (x3 + (2 : Int32)) (L + 1 - 1) ∧ (¬ L + 1 = 0 ∧ vp_in (x3 + (3 : Int32)) (L + 1 - 1) ∧ wm_OkI 0 193 [.ref 89, .int (xs ((x3 + (1 : Int32))).toNatClampNeg), .int (xs ((x3 + (2 : Int32))).toNatClampNeg), .int (xs ((x3 + (3 : Int32))).toNatClampNeg)] μ1 (fun r4 μ3 => ((r2 = r4 → wl_W L xs 1585 [.ref 3000, .ref 0, .ref 89, .int x3] μ3) ∧ (¬ r2 = r4 → (some (Value.int (0 : Int32)) : Option Value) = some (.int 1)))))))))))) : wl_W L xs 228 [.ref 3000, .ref 0, .ref 89, .int x3] μ := wl_vc ml_ok ml_c 400 h
set_option maxRecDepth 100000 in
set_option maxHeartbeats 8000000 in
theorem fl_271 {L : Nat} {xs : Nat → Int32} (x3 : Int32) (μ : wm_M) (h : (¬ L + 1 = 0 ∧ vp_in (x3 + (1 : Int32)) (L + 1 - 1) ∧ (¬ L + 1 = 0 ∧ vp_in (x3 + (2 : Int32)) (L + 1 - 1) ∧ (¬ L + 1 = 0 ∧ vp_in (x3 + (3 : Int32)) (L + 1 - 1) ∧ wm_OkI 0 117 [.ref 0, .int (xs ((x3 + (1 : Int32))).toNatClampNeg), .int (xs ((x3 + (2 : Int32))).toNatClampNeg), .int (xs ((x3 + (3 : Int32))).toNatClampNeg)] μ (fun r2 μ1 => (¬ L + 1 = 0 ∧ vp_in (x3 + (1 : Int32)) (L + 1 - 1) ∧ (¬ L + 1 = 0 ∧ vp_in (x3 + (2 : Int32)) (L + 1 - 1) ∧ (¬ L + 1 = 0 ∧ vp_in (x3 + (3 : Int32)) (L + 1 - 1) ∧ wm_OkI 0 196 [.ref 89, .int (xs ((x3 + (1 : Int32))).toNatClampNeg), .int (xs ((x3 + (2 : Int32))).toNatClampNeg), .int (xs ((x3 + (3 : Int32))).toNatClampNeg)] μ1 (fun r4 μ3 => ((r2 = r4 → wl_W L xs 1585 [.ref 3000, .ref 0, .ref 89, .int x3] μ3) ∧ (¬ r2 = r4 → (some (Value.int (0 : Int32)) : Option Value) = some (.int 1)))))))))))) : wl_W L xs 271 [.ref 3000, .ref 0, .ref 89, .int x3] μ := wl_vc ml_ok ml_c 400 h
set_option maxRecDepth 100000 in
set_option maxHeartbeats 8000000 in
theorem fl_314 {L : Nat} {xs : Nat → Int32} (x3 : Int32) (μ : wm_M) (h : (¬ L + 1 = 0 ∧ vp_in (x3 + (1 : Int32)) (L + 1 - 1) ∧ (¬ L + 1 = 0 ∧ vp_in (x3 + (2 : Int32)) (L + 1 - 1) ∧ (¬ L + 1 = 0 ∧ vp_in (x3 + (3 : Int32)) (L + 1 - 1) ∧ wm_OkI 0 118 [.ref 0, .int (xs ((x3 + (1 : Int32))).toNatClampNeg), .int (xs ((x3 + (2 : Int32))).toNatClampNeg), .int (xs ((x3 + (3 : Int32))).toNatClampNeg)] μ (fun r2 μ1 => (¬ L + 1 = 0 ∧ vp_in (x3 + (1 : Int32)) (L + 1 - 1) ∧ (¬ L + 1 = 0 ∧ vp_in (x3 + (2 : Int32)) (L + 1 - 1) ∧ (¬ L + 1 = 0 ∧ vp_in (x3 + (3 : Int32)) (L + 1 - 1) ∧ wm_OkI 0 201 [.ref 89, .int (xs ((x3 + (1 : Int32))).toNatClampNeg), .int (xs ((x3 + (2 : Int32))).toNatClampNeg), .int (xs ((x3 + (3 : Int32))).toNatClampNeg)] μ1 (fun r4 μ3 => ((r2 = r4 → wl_W L xs 1585 [.ref 3000, .ref 0, .ref 89, .int x3] μ3) ∧ (¬ r2 = r4 → (some (Value.int (0 : Int32)) : Option Value) = some (.int 1)))))))))))) : wl_W L xs 314 [.ref 3000, .ref 0, .ref 89, .int x3] μ := wl_vc ml_ok ml_c 400 h
set_option maxRecDepth 100000 in
set_option maxHeartbeats 8000000 in
theorem fl_357 {L : Nat} {xs : Nat → Int32} (x3 : Int32) (μ : wm_M) (h : (¬ L + 1 = 0 ∧ vp_in (x3 + (1 : Int32)) (L + 1 - 1) ∧ wm_OkI 0 119 [.ref 0, .int (xs ((x3 + (1 : Int32))).toNatClampNeg)] μ (fun r2 μ1 => (¬ L + 1 = 0 ∧ vp_in (x3 + (1 : Int32)) (L + 1 - 1) ∧ wm_OkI 0 202 [.ref 89, .int (xs ((x3 + (1 : Int32))).toNatClampNeg)] μ1 (fun r4 μ3 => ((r2 = r4 → wl_W L xs 1585 [.ref 3000, .ref 0, .ref 89, .int x3] μ3) ∧ (¬ r2 = r4 → (some (Value.int (0 : Int32)) : Option Value) = some (.int 1)))))))) : wl_W L xs 357 [.ref 3000, .ref 0, .ref 89, .int x3] μ := wl_vc ml_ok ml_c 400 h
set_option maxRecDepth 100000 in
set_option maxHeartbeats 8000000 in
theorem fl_380 {L : Nat} {xs : Nat → Int32} (x3 : Int32) (μ : wm_M) (h : (¬ L + 1 = 0 ∧ vp_in (x3 + (1 : Int32)) (L + 1 - 1) ∧ (¬ L + 1 = 0 ∧ vp_in (x3 + (2 : Int32)) (L + 1 - 1) ∧ (¬ L + 1 = 0 ∧ vp_in (x3 + (3 : Int32)) (L + 1 - 1) ∧ wm_OkI 0 120 [.ref 0, .int (xs ((x3 + (1 : Int32))).toNatClampNeg), .int (xs ((x3 + (2 : Int32))).toNatClampNeg), .int (xs ((x3 + (3 : Int32))).toNatClampNeg)] μ (fun r2 μ1 => (¬ L + 1 = 0 ∧ vp_in (x3 + (1 : Int32)) (L + 1 - 1) ∧ (¬ L + 1 = 0 ∧ vp_in (x3 + (2 : Int32)) (L + 1 - 1) ∧ (¬ L + 1 = 0 ∧ vp_in (x3 + (3 : Int32)) (L + 1 - 1) ∧ wm_OkI 0 204 [.ref 89, .int (xs ((x3 + (1 : Int32))).toNatClampNeg), .int (xs ((x3 + (2 : Int32))).toNatClampNeg), .int (xs ((x3 + (3 : Int32))).toNatClampNeg)] μ1 (fun r4 μ3 => ((r2 = r4 → wl_W L xs 1585 [.ref 3000, .ref 0, .ref 89, .int x3] μ3) ∧ (¬ r2 = r4 → (some (Value.int (0 : Int32)) : Option Value) = some (.int 1)))))))))))) : wl_W L xs 380 [.ref 3000, .ref 0, .ref 89, .int x3] μ := wl_vc ml_ok ml_c 400 h
set_option maxRecDepth 100000 in
set_option maxHeartbeats 8000000 in
theorem fl_423 {L : Nat} {xs : Nat → Int32} (x3 : Int32) (μ : wm_M) (h : (¬ L + 1 = 0 ∧ vp_in (x3 + (1 : Int32)) (L + 1 - 1) ∧ (¬ L + 1 = 0 ∧ vp_in (x3 + (2 : Int32)) (L + 1 - 1) ∧ (¬ L + 1 = 0 ∧ vp_in (x3 + (3 : Int32)) (L + 1 - 1) ∧ wm_OkI 0 121 [.ref 0, .int (xs ((x3 + (1 : Int32))).toNatClampNeg), .int (xs ((x3 + (2 : Int32))).toNatClampNeg), .int (xs ((x3 + (3 : Int32))).toNatClampNeg)] μ (fun r2 μ1 => (¬ L + 1 = 0 ∧ vp_in (x3 + (1 : Int32)) (L + 1 - 1) ∧ (¬ L + 1 = 0 ∧ vp_in (x3 + (2 : Int32)) (L + 1 - 1) ∧ (¬ L + 1 = 0 ∧ vp_in (x3 + (3 : Int32)) (L + 1 - 1) ∧ wm_OkI 0 205 [.ref 89, .int (xs ((x3 + (1 : Int32))).toNatClampNeg), .int (xs ((x3 + (2 : Int32))).toNatClampNeg), .int (xs ((x3 + (3 : Int32))).toNatClampNeg)] μ1 (fun r4 μ3 => ((r2 = r4 → wl_W L xs 1585 [.ref 3000, .ref 0, .ref 89, .int x3] μ3) ∧ (¬ r2 = r4 → (some (Value.int (0 : Int32)) : Option Value) = some (.int 1)))))))))))) : wl_W L xs 423 [.ref 3000, .ref 0, .ref 89, .int x3] μ := wl_vc ml_ok ml_c 400 h
set_option maxRecDepth 100000 in
set_option maxHeartbeats 8000000 in
theorem fl_466 {L : Nat} {xs : Nat → Int32} (x3 : Int32) (μ : wm_M) (h : (¬ L + 1 = 0 ∧ vp_in (x3 + (1 : Int32)) (L + 1 - 1) ∧ (¬ L + 1 = 0 ∧ vp_in (x3 + (2 : Int32)) (L + 1 - 1) ∧ (¬ L + 1 = 0 ∧ vp_in (x3 + (3 : Int32)) (L + 1 - 1) ∧ wm_OkI 0 122 [.ref 0, .int (xs ((x3 + (1 : Int32))).toNatClampNeg), .int (xs ((x3 + (2 : Int32))).toNatClampNeg), .int (xs ((x3 + (3 : Int32))).toNatClampNeg)] μ (fun r2 μ1 => (¬ L + 1 = 0 ∧ vp_in (x3 + (1 : Int32)) (L + 1 - 1) ∧ (¬ L + 1 = 0 ∧ vp_in (x3 + (2 : Int32)) (L + 1 - 1) ∧ (¬ L + 1 = 0 ∧ vp_in (x3 + (3 : Int32)) (L + 1 - 1) ∧ wm_OkI 0 207 [.ref 89, .int (xs ((x3 + (1 : Int32))).toNatClampNeg), .int (xs ((x3 + (2 : Int32))).toNatClampNeg), .int (xs ((x3 + (3 : Int32))).toNatClampNeg)] μ1 (fun r4 μ3 => ((r2 = r4 → wl_W L xs 1585 [.ref 3000, .ref 0, .ref 89, .int x3] μ3) ∧ (¬ r2 = r4 → (some (Value.int (0 : Int32)) : Option Value) = some (.int 1)))))))))))) : wl_W L xs 466 [.ref 3000, .ref 0, .ref 89, .int x3] μ := wl_vc ml_ok ml_c 400 h
set_option maxRecDepth 100000 in
set_option maxHeartbeats 8000000 in
theorem fl_509 {L : Nat} {xs : Nat → Int32} (x3 : Int32) (μ : wm_M) (h : (¬ L + 1 = 0 ∧ vp_in (x3 + (1 : Int32)) (L + 1 - 1) ∧ wm_OkI 0 123 [.ref 0, .int (xs ((x3 + (1 : Int32))).toNatClampNeg)] μ (fun r2 μ1 => (¬ L + 1 = 0 ∧ vp_in (x3 + (1 : Int32)) (L + 1 - 1) ∧ wm_OkI 0 208 [.ref 89, .int (xs ((x3 + (1 : Int32))).toNatClampNeg)] μ1 (fun r4 μ3 => ((r2 = r4 → wl_W L xs 1585 [.ref 3000, .ref 0, .ref 89, .int x3] μ3) ∧ (¬ r2 = r4 → (some (Value.int (0 : Int32)) : Option Value) = some (.int 1)))))))) : wl_W L xs 509 [.ref 3000, .ref 0, .ref 89, .int x3] μ := wl_vc ml_ok ml_c 400 h
set_option maxRecDepth 100000 in
set_option maxHeartbeats 8000000 in
theorem fl_532 {L : Nat} {xs : Nat → Int32} (x3 : Int32) (μ : wm_M) (h : (¬ L + 1 = 0 ∧ vp_in (x3 + (1 : Int32)) (L + 1 - 1) ∧ (¬ L + 1 = 0 ∧ vp_in (x3 + (2 : Int32)) (L + 1 - 1) ∧ (¬ L + 1 = 0 ∧ vp_in (x3 + (3 : Int32)) (L + 1 - 1) ∧ wm_OkI 0 124 [.ref 0, .int (xs ((x3 + (1 : Int32))).toNatClampNeg), .int (xs ((x3 + (2 : Int32))).toNatClampNeg), .int (xs ((x3 + (3 : Int32))).toNatClampNeg)] μ (fun r2 μ1 => (¬ L + 1 = 0 ∧ vp_in (x3 + (1 : Int32)) (L + 1 - 1) ∧ (¬ L + 1 = 0 ∧ vp_in (x3 + (2 : Int32)) (L + 1 - 1) ∧ (¬ L + 1 = 0 ∧ vp_in (x3 + (3 : Int32)) (L + 1 - 1) ∧ wm_OkI 0 214 [.ref 89, .int (xs ((x3 + (1 : Int32))).toNatClampNeg), .int (xs ((x3 + (2 : Int32))).toNatClampNeg), .int (xs ((x3 + (3 : Int32))).toNatClampNeg)] μ1 (fun r4 μ3 => ((r2 = r4 → wl_W L xs 1585 [.ref 3000, .ref 0, .ref 89, .int x3] μ3) ∧ (¬ r2 = r4 → (some (Value.int (0 : Int32)) : Option Value) = some (.int 1)))))))))))) : wl_W L xs 532 [.ref 3000, .ref 0, .ref 89, .int x3] μ := wl_vc ml_ok ml_c 400 h
set_option maxRecDepth 100000 in
set_option maxHeartbeats 8000000 in
theorem fl_575 {L : Nat} {xs : Nat → Int32} (x3 : Int32) (μ : wm_M) (h : (¬ L + 1 = 0 ∧ vp_in (x3 + (1 : Int32)) (L + 1 - 1) ∧ (¬ L + 1 = 0 ∧ vp_in (x3 + (2 : Int32)) (L + 1 - 1) ∧ wm_OkI 0 125 [.ref 0, .int (xs ((x3 + (1 : Int32))).toNatClampNeg), .int (xs ((x3 + (2 : Int32))).toNatClampNeg)] μ (fun r2 μ1 => (¬ L + 1 = 0 ∧ vp_in (x3 + (1 : Int32)) (L + 1 - 1) ∧ (¬ L + 1 = 0 ∧ vp_in (x3 + (2 : Int32)) (L + 1 - 1) ∧ wm_OkI 0 215 [.ref 89, .int (xs ((x3 + (1 : Int32))).toNatClampNeg), .int (xs ((x3 + (2 : Int32))).toNatClampNeg)] μ1 (fun r4 μ3 => ((r2 = r4 → wl_W L xs 1585 [.ref 3000, .ref 0, .ref 89, .int x3] μ3) ∧ (¬ r2 = r4 → (some (Value.int (0 : Int32)) : Option Value) = some (.int 1)))))))))) : wl_W L xs 575 [.ref 3000, .ref 0, .ref 89, .int x3] μ := wl_vc ml_ok ml_c 400 h
set_option maxRecDepth 100000 in
set_option maxHeartbeats 8000000 in
theorem fl_608 {L : Nat} {xs : Nat → Int32} (x3 : Int32) (μ : wm_M) (h : (¬ L + 1 = 0 ∧ vp_in (x3 + (1 : Int32)) (L + 1 - 1) ∧ (¬ L + 1 = 0 ∧ vp_in (x3 + (2 : Int32)) (L + 1 - 1) ∧ wm_OkI 0 126 [.ref 0, .int (xs ((x3 + (1 : Int32))).toNatClampNeg), .int (xs ((x3 + (2 : Int32))).toNatClampNeg)] μ (fun r2 μ1 => (¬ L + 1 = 0 ∧ vp_in (x3 + (1 : Int32)) (L + 1 - 1) ∧ (¬ L + 1 = 0 ∧ vp_in (x3 + (2 : Int32)) (L + 1 - 1) ∧ wm_OkI 0 217 [.ref 89, .int (xs ((x3 + (1 : Int32))).toNatClampNeg), .int (xs ((x3 + (2 : Int32))).toNatClampNeg)] μ1 (fun r4 μ3 => ((r2 = r4 → wl_W L xs 1585 [.ref 3000, .ref 0, .ref 89, .int x3] μ3) ∧ (¬ r2 = r4 → (some (Value.int (0 : Int32)) : Option Value) = some (.int 1)))))))))) : wl_W L xs 608 [.ref 3000, .ref 0, .ref 89, .int x3] μ := wl_vc ml_ok ml_c 400 h
set_option maxRecDepth 100000 in
set_option maxHeartbeats 8000000 in
theorem fl_641 {L : Nat} {xs : Nat → Int32} (x3 : Int32) (μ : wm_M) (h : wm_OkI 0 127 [.ref 0] μ (fun r2 μ1 => wm_OkI 0 218 [.ref 89] μ1 (fun r4 μ3 => ((r2 = r4 → wl_W L xs 1585 [.ref 3000, .ref 0, .ref 89, .int x3] μ3) ∧ (¬ r2 = r4 → (some (Value.int (0 : Int32)) : Option Value) = some (.int 1)))))) : wl_W L xs 641 [.ref 3000, .ref 0, .ref 89, .int x3] μ := wl_vc ml_ok ml_c 400 h
set_option maxRecDepth 100000 in
set_option maxHeartbeats 8000000 in
theorem fl_654 {L : Nat} {xs : Nat → Int32} (x3 : Int32) (μ : wm_M) (h : (¬ L + 1 = 0 ∧ vp_in (x3 + (1 : Int32)) (L + 1 - 1) ∧ (¬ L + 1 = 0 ∧ vp_in (x3 + (2 : Int32)) (L + 1 - 1) ∧ wm_OkI 0 128 [.ref 0, .int (xs ((x3 + (1 : Int32))).toNatClampNeg), .int (xs ((x3 + (2 : Int32))).toNatClampNeg)] μ (fun r2 μ1 => (¬ L + 1 = 0 ∧ vp_in (x3 + (1 : Int32)) (L + 1 - 1) ∧ (¬ L + 1 = 0 ∧ vp_in (x3 + (2 : Int32)) (L + 1 - 1) ∧ wm_OkI 0 219 [.ref 89, .int (xs ((x3 + (1 : Int32))).toNatClampNeg), .int (xs ((x3 + (2 : Int32))).toNatClampNeg)] μ1 (fun r4 μ3 => ((r2 = r4 → wl_W L xs 1585 [.ref 3000, .ref 0, .ref 89, .int x3] μ3) ∧ (¬ r2 = r4 → (some (Value.int (0 : Int32)) : Option Value) = some (.int 1)))))))))) : wl_W L xs 654 [.ref 3000, .ref 0, .ref 89, .int x3] μ := wl_vc ml_ok ml_c 400 h
set_option maxRecDepth 100000 in
set_option maxHeartbeats 8000000 in
theorem fl_687 {L : Nat} {xs : Nat → Int32} (x3 : Int32) (μ : wm_M) (h : (¬ L + 1 = 0 ∧ vp_in (x3 + (1 : Int32)) (L + 1 - 1) ∧ (¬ L + 1 = 0 ∧ vp_in (x3 + (2 : Int32)) (L + 1 - 1) ∧ wm_OkI 0 129 [.ref 0, .int (xs ((x3 + (1 : Int32))).toNatClampNeg), .int (xs ((x3 + (2 : Int32))).toNatClampNeg)] μ (fun r2 μ1 => (¬ L + 1 = 0 ∧ vp_in (x3 + (1 : Int32)) (L + 1 - 1) ∧ (¬ L + 1 = 0 ∧ vp_in (x3 + (2 : Int32)) (L + 1 - 1) ∧ wm_OkI 0 223 [.ref 89, .int (xs ((x3 + (1 : Int32))).toNatClampNeg), .int (xs ((x3 + (2 : Int32))).toNatClampNeg)] μ1 (fun r4 μ3 => ((r2 = r4 → wl_W L xs 1585 [.ref 3000, .ref 0, .ref 89, .int x3] μ3) ∧ (¬ r2 = r4 → (some (Value.int (0 : Int32)) : Option Value) = some (.int 1)))))))))) : wl_W L xs 687 [.ref 3000, .ref 0, .ref 89, .int x3] μ := wl_vc ml_ok ml_c 400 h
set_option maxRecDepth 100000 in
set_option maxHeartbeats 8000000 in
theorem fl_720 {L : Nat} {xs : Nat → Int32} (x3 : Int32) (μ : wm_M) (h : wm_OkI 0 130 [.ref 0] μ (fun r2 μ1 => wm_OkI 0 224 [.ref 89] μ1 (fun r4 μ3 => ((r2 = r4 → wl_W L xs 1585 [.ref 3000, .ref 0, .ref 89, .int x3] μ3) ∧ (¬ r2 = r4 → (some (Value.int (0 : Int32)) : Option Value) = some (.int 1)))))) : wl_W L xs 720 [.ref 3000, .ref 0, .ref 89, .int x3] μ := wl_vc ml_ok ml_c 400 h
set_option maxRecDepth 100000 in
set_option maxHeartbeats 8000000 in
theorem fl_733 {L : Nat} {xs : Nat → Int32} (x3 : Int32) (μ : wm_M) (h : (¬ L + 1 = 0 ∧ vp_in (x3 + (1 : Int32)) (L + 1 - 1) ∧ (¬ L + 1 = 0 ∧ vp_in (x3 + (2 : Int32)) (L + 1 - 1) ∧ wm_OkI 0 131 [.ref 0, .int (xs ((x3 + (1 : Int32))).toNatClampNeg), .int (xs ((x3 + (2 : Int32))).toNatClampNeg)] μ (fun r2 μ1 => (¬ L + 1 = 0 ∧ vp_in (x3 + (1 : Int32)) (L + 1 - 1) ∧ (¬ L + 1 = 0 ∧ vp_in (x3 + (2 : Int32)) (L + 1 - 1) ∧ wm_OkI 0 239 [.ref 89, .int (xs ((x3 + (1 : Int32))).toNatClampNeg), .int (xs ((x3 + (2 : Int32))).toNatClampNeg)] μ1 (fun r4 μ3 => ((r2 = r4 → wl_W L xs 1585 [.ref 3000, .ref 0, .ref 89, .int x3] μ3) ∧ (¬ r2 = r4 → (some (Value.int (0 : Int32)) : Option Value) = some (.int 1)))))))))) : wl_W L xs 733 [.ref 3000, .ref 0, .ref 89, .int x3] μ := wl_vc ml_ok ml_c 400 h
set_option maxRecDepth 100000 in
set_option maxHeartbeats 8000000 in
theorem fl_766 {L : Nat} {xs : Nat → Int32} (x3 : Int32) (μ : wm_M) (h : (¬ L + 1 = 0 ∧ vp_in (x3 + (1 : Int32)) (L + 1 - 1) ∧ (¬ L + 1 = 0 ∧ vp_in (x3 + (2 : Int32)) (L + 1 - 1) ∧ (¬ L + 1 = 0 ∧ vp_in (x3 + (3 : Int32)) (L + 1 - 1) ∧ wm_OkI 0 132 [.ref 0, .int (xs ((x3 + (1 : Int32))).toNatClampNeg), .int (xs ((x3 + (2 : Int32))).toNatClampNeg), .int (xs ((x3 + (3 : Int32))).toNatClampNeg)] μ (fun r2 μ1 => (¬ L + 1 = 0 ∧ vp_in (x3 + (1 : Int32)) (L + 1 - 1) ∧ (¬ L + 1 = 0 ∧ vp_in (x3 + (2 : Int32)) (L + 1 - 1) ∧ (¬ L + 1 = 0 ∧ vp_in (x3 + (3 : Int32)) (L + 1 - 1) ∧ wm_OkI 0 243 [.ref 89, .int (xs ((x3 + (1 : Int32))).toNatClampNeg), .int (xs ((x3 + (2 : Int32))).toNatClampNeg), .int (xs ((x3 + (3 : Int32))).toNatClampNeg)] μ1 (fun r4 μ3 => ((r2 = r4 → wl_W L xs 1585 [.ref 3000, .ref 0, .ref 89, .int x3] μ3) ∧ (¬ r2 = r4 → (some (Value.int (0 : Int32)) : Option Value) = some (.int 1)))))))))))) : wl_W L xs 766 [.ref 3000, .ref 0, .ref 89, .int x3] μ := wl_vc ml_ok ml_c 400 h
set_option maxRecDepth 100000 in
set_option maxHeartbeats 8000000 in
theorem fl_809 {L : Nat} {xs : Nat → Int32} (x3 : Int32) (μ : wm_M) (h : (¬ L + 1 = 0 ∧ vp_in (x3 + (1 : Int32)) (L + 1 - 1) ∧ (¬ L + 1 = 0 ∧ vp_in (x3 + (2 : Int32)) (L + 1 - 1) ∧ (¬ L + 1 = 0 ∧ vp_in (x3 + (3 : Int32)) (L + 1 - 1) ∧ wm_OkI 0 133 [.ref 0, .int (xs ((x3 + (1 : Int32))).toNatClampNeg), .int (xs ((x3 + (2 : Int32))).toNatClampNeg), .int (xs ((x3 + (3 : Int32))).toNatClampNeg)] μ (fun r2 μ1 => (¬ L + 1 = 0 ∧ vp_in (x3 + (1 : Int32)) (L + 1 - 1) ∧ (¬ L + 1 = 0 ∧ vp_in (x3 + (2 : Int32)) (L + 1 - 1) ∧ (¬ L + 1 = 0 ∧ vp_in (x3 + (3 : Int32)) (L + 1 - 1) ∧ wm_OkI 0 244 [.ref 89, .int (xs ((x3 + (1 : Int32))).toNatClampNeg), .int (xs ((x3 + (2 : Int32))).toNatClampNeg), .int (xs ((x3 + (3 : Int32))).toNatClampNeg)] μ1 (fun r4 μ3 => ((r2 = r4 → wl_W L xs 1585 [.ref 3000, .ref 0, .ref 89, .int x3] μ3) ∧ (¬ r2 = r4 → (some (Value.int (0 : Int32)) : Option Value) = some (.int 1)))))))))))) : wl_W L xs 809 [.ref 3000, .ref 0, .ref 89, .int x3] μ := wl_vc ml_ok ml_c 400 h
set_option maxRecDepth 100000 in
set_option maxHeartbeats 8000000 in
theorem fl_852 {L : Nat} {xs : Nat → Int32} (x3 : Int32) (μ : wm_M) (h : (¬ L + 1 = 0 ∧ vp_in (x3 + (1 : Int32)) (L + 1 - 1) ∧ (¬ L + 1 = 0 ∧ vp_in (x3 + (2 : Int32)) (L + 1 - 1) ∧ (¬ L + 1 = 0 ∧ vp_in (x3 + (3 : Int32)) (L + 1 - 1) ∧ wm_OkI 0 134 [.ref 0, .int (xs ((x3 + (1 : Int32))).toNatClampNeg), .int (xs ((x3 + (2 : Int32))).toNatClampNeg), .int (xs ((x3 + (3 : Int32))).toNatClampNeg)] μ (fun r2 μ1 => (¬ L + 1 = 0 ∧ vp_in (x3 + (1 : Int32)) (L + 1 - 1) ∧ (¬ L + 1 = 0 ∧ vp_in (x3 + (2 : Int32)) (L + 1 - 1) ∧ (¬ L + 1 = 0 ∧ vp_in (x3 + (3 : Int32)) (L + 1 - 1) ∧ wm_OkI 0 260 [.ref 89, .int (xs ((x3 + (1 : Int32))).toNatClampNeg), .int (xs ((x3 + (2 : Int32))).toNatClampNeg), .int (xs ((x3 + (3 : Int32))).toNatClampNeg)] μ1 (fun r4 μ3 => ((r2 = r4 → wl_W L xs 1585 [.ref 3000, .ref 0, .ref 89, .int x3] μ3) ∧ (¬ r2 = r4 → (some (Value.int (0 : Int32)) : Option Value) = some (.int 1)))))))))))) : wl_W L xs 852 [.ref 3000, .ref 0, .ref 89, .int x3] μ := wl_vc ml_ok ml_c 400 h
set_option maxRecDepth 100000 in
set_option maxHeartbeats 8000000 in
theorem fl_895 {L : Nat} {xs : Nat → Int32} (x3 : Int32) (μ : wm_M) (h : (¬ L + 1 = 0 ∧ vp_in (x3 + (1 : Int32)) (L + 1 - 1) ∧ (¬ L + 1 = 0 ∧ vp_in (x3 + (2 : Int32)) (L + 1 - 1) ∧ (¬ L + 1 = 0 ∧ vp_in (x3 + (3 : Int32)) (L + 1 - 1) ∧ wm_OkI 0 135 [.ref 0, .int (xs ((x3 + (1 : Int32))).toNatClampNeg), .int (xs ((x3 + (2 : Int32))).toNatClampNeg), .int (xs ((x3 + (3 : Int32))).toNatClampNeg)] μ (fun r2 μ1 => (¬ L + 1 = 0 ∧ vp_in (x3 + (1 : Int32)) (L + 1 - 1) ∧ (¬ L + 1 = 0 ∧ vp_in (x3 + (2 : Int32)) (L + 1 - 1) ∧ (¬ L + 1 = 0 ∧ vp_in (x3 + (3 : Int32)) (L + 1 - 1) ∧ wm_OkI 0 261 [.ref 89, .int (xs ((x3 + (1 : Int32))).toNatClampNeg), .int (xs ((x3 + (2 : Int32))).toNatClampNeg), .int (xs ((x3 + (3 : Int32))).toNatClampNeg)] μ1 (fun r4 μ3 => ((r2 = r4 → wl_W L xs 1585 [.ref 3000, .ref 0, .ref 89, .int x3] μ3) ∧ (¬ r2 = r4 → (some (Value.int (0 : Int32)) : Option Value) = some (.int 1)))))))))))) : wl_W L xs 895 [.ref 3000, .ref 0, .ref 89, .int x3] μ := wl_vc ml_ok ml_c 400 h
set_option maxRecDepth 100000 in
set_option maxHeartbeats 8000000 in
theorem fl_938 {L : Nat} {xs : Nat → Int32} (x3 : Int32) (μ : wm_M) (h : (¬ L + 1 = 0 ∧ vp_in (x3 + (1 : Int32)) (L + 1 - 1) ∧ (¬ L + 1 = 0 ∧ vp_in (x3 + (2 : Int32)) (L + 1 - 1) ∧ wm_OkI 0 136 [.ref 0, .int (xs ((x3 + (1 : Int32))).toNatClampNeg), .int (xs ((x3 + (2 : Int32))).toNatClampNeg)] μ (fun r2 μ1 => (¬ L + 1 = 0 ∧ vp_in (x3 + (1 : Int32)) (L + 1 - 1) ∧ (¬ L + 1 = 0 ∧ vp_in (x3 + (2 : Int32)) (L + 1 - 1) ∧ wm_OkI 0 263 [.ref 89, .int (xs ((x3 + (1 : Int32))).toNatClampNeg), .int (xs ((x3 + (2 : Int32))).toNatClampNeg)] μ1 (fun r4 μ3 => ((r2 = r4 → wl_W L xs 1585 [.ref 3000, .ref 0, .ref 89, .int x3] μ3) ∧ (¬ r2 = r4 → (some (Value.int (0 : Int32)) : Option Value) = some (.int 1)))))))))) : wl_W L xs 938 [.ref 3000, .ref 0, .ref 89, .int x3] μ := wl_vc ml_ok ml_c 400 h
set_option maxRecDepth 100000 in
set_option maxHeartbeats 8000000 in
theorem fl_971 {L : Nat} {xs : Nat → Int32} (x3 : Int32) (μ : wm_M) (h : (¬ L + 1 = 0 ∧ vp_in (x3 + (1 : Int32)) (L + 1 - 1) ∧ (¬ L + 1 = 0 ∧ vp_in (x3 + (2 : Int32)) (L + 1 - 1) ∧ wm_OkI 0 137 [.ref 0, .int (xs ((x3 + (1 : Int32))).toNatClampNeg), .int (xs ((x3 + (2 : Int32))).toNatClampNeg)] μ (fun r2 μ1 => (¬ L + 1 = 0 ∧ vp_in (x3 + (1 : Int32)) (L + 1 - 1) ∧ (¬ L + 1 = 0 ∧ vp_in (x3 + (2 : Int32)) (L + 1 - 1) ∧ wm_OkI 0 264 [.ref 89, .int (xs ((x3 + (1 : Int32))).toNatClampNeg), .int (xs ((x3 + (2 : Int32))).toNatClampNeg)] μ1 (fun r4 μ3 => ((r2 = r4 → wl_W L xs 1585 [.ref 3000, .ref 0, .ref 89, .int x3] μ3) ∧ (¬ r2 = r4 → (some (Value.int (0 : Int32)) : Option Value) = some (.int 1)))))))))) : wl_W L xs 971 [.ref 3000, .ref 0, .ref 89, .int x3] μ := wl_vc ml_ok ml_c 400 h
set_option maxRecDepth 100000 in
set_option maxHeartbeats 8000000 in
theorem fl_1004 {L : Nat} {xs : Nat → Int32} (x3 : Int32) (μ : wm_M) (h : (¬ L + 1 = 0 ∧ vp_in (x3 + (1 : Int32)) (L + 1 - 1) ∧ (¬ L + 1 = 0 ∧ vp_in (x3 + (2 : Int32)) (L + 1 - 1) ∧ wm_OkI 0 138 [.ref 0, .int (xs ((x3 + (1 : Int32))).toNatClampNeg), .int (xs ((x3 + (2 : Int32))).toNatClampNeg)] μ (fun r2 μ1 => (¬ L + 1 = 0 ∧ vp_in (x3 + (1 : Int32)) (L + 1 - 1) ∧ (¬ L + 1 = 0 ∧ vp_in (x3 + (2 : Int32)) (L + 1 - 1) ∧ wm_OkI 0 265 [.ref 89, .int (xs ((x3 + (1 : Int32))).toNatClampNeg), .int (xs ((x3 + (2 : Int32))).toNatClampNeg)] μ1 (fun r4 μ3 => ((r2 = r4 → wl_W L xs 1585 [.ref 3000, .ref 0, .ref 89, .int x3] μ3) ∧ (¬ r2 = r4 → (some (Value.int (0 : Int32)) : Option Value) = some (.int 1)))))))))) : wl_W L xs 1004 [.ref 3000, .ref 0, .ref 89, .int x3] μ := wl_vc ml_ok ml_c 400 h
set_option maxRecDepth 100000 in
set_option maxHeartbeats 8000000 in
theorem fl_1037 {L : Nat} {xs : Nat → Int32} (x3 : Int32) (μ : wm_M) (h : (¬ L + 1 = 0 ∧ vp_in (x3 + (1 : Int32)) (L + 1 - 1) ∧ (¬ L + 1 = 0 ∧ vp_in (x3 + (2 : Int32)) (L + 1 - 1) ∧ wm_OkI 0 139 [.ref 0, .int (xs ((x3 + (1 : Int32))).toNatClampNeg), .int (xs ((x3 + (2 : Int32))).toNatClampNeg)] μ (fun r2 μ1 => (¬ L + 1 = 0 ∧ vp_in (x3 + (1 : Int32)) (L + 1 - 1) ∧ (¬ L + 1 = 0 ∧ vp_in (x3 + (2 : Int32)) (L + 1 - 1) ∧ wm_OkI 0 269 [.ref 89, .int (xs ((x3 + (1 : Int32))).toNatClampNeg), .int (xs ((x3 + (2 : Int32))).toNatClampNeg)] μ1 (fun r4 μ3 => ((r2 = r4 → wl_W L xs 1585 [.ref 3000, .ref 0, .ref 89, .int x3] μ3) ∧ (¬ r2 = r4 → (some (Value.int (0 : Int32)) : Option Value) = some (.int 1)))))))))) : wl_W L xs 1037 [.ref 3000, .ref 0, .ref 89, .int x3] μ := wl_vc ml_ok ml_c 400 h
set_option maxRecDepth 100000 in
set_option maxHeartbeats 8000000 in
theorem fl_1070 {L : Nat} {xs : Nat → Int32} (x3 : Int32) (μ : wm_M) (h : (¬ L + 1 = 0 ∧ vp_in (x3 + (1 : Int32)) (L + 1 - 1) ∧ (¬ L + 1 = 0 ∧ vp_in (x3 + (2 : Int32)) (L + 1 - 1) ∧ wm_OkJ 0 140 [.ref 0, .int (xs ((x3 + (1 : Int32))).toNatClampNeg), .int (xs ((x3 + (2 : Int32))).toNatClampNeg)] μ (fun r2 μ1 => (¬ L + 1 = 0 ∧ vp_in (x3 + (1 : Int32)) (L + 1 - 1) ∧ (¬ L + 1 = 0 ∧ vp_in (x3 + (2 : Int32)) (L + 1 - 1) ∧ wm_OkJ 0 278 [.ref 89, .int (xs ((x3 + (1 : Int32))).toNatClampNeg), .int (xs ((x3 + (2 : Int32))).toNatClampNeg)] μ1 (fun r4 μ3 => (((lg_cmp r2 r4) = (0 : Int32) → wl_W L xs 1585 [.ref 3000, .ref 0, .ref 89, .int x3] μ3) ∧ (¬ (lg_cmp r2 r4) = (0 : Int32) → (some (Value.int (0 : Int32)) : Option Value) = some (.int 1)))))))))) : wl_W L xs 1070 [.ref 3000, .ref 0, .ref 89, .int x3] μ := wl_vc ml_ok ml_c 400 h
set_option maxRecDepth 100000 in
set_option maxHeartbeats 8000000 in
theorem fl_1104 {L : Nat} {xs : Nat → Int32} (x3 : Int32) (μ : wm_M) (h : wm_OkJ 0 141 [.ref 0] μ (fun r2 μ1 => wm_OkJ 0 279 [.ref 89] μ1 (fun r4 μ3 => (((lg_cmp r2 r4) = (0 : Int32) → wl_W L xs 1585 [.ref 3000, .ref 0, .ref 89, .int x3] μ3) ∧ (¬ (lg_cmp r2 r4) = (0 : Int32) → (some (Value.int (0 : Int32)) : Option Value) = some (.int 1)))))) : wl_W L xs 1104 [.ref 3000, .ref 0, .ref 89, .int x3] μ := wl_vc ml_ok ml_c 400 h
set_option maxRecDepth 100000 in
set_option maxHeartbeats 8000000 in
theorem fl_1118 {L : Nat} {xs : Nat → Int32} (x3 : Int32) (μ : wm_M) (h : (¬ L + 1 = 0 ∧ vp_in (x3 + (1 : Int32)) (L + 1 - 1) ∧ wm_OkI 0 142 [.ref 0, .int (xs ((x3 + (1 : Int32))).toNatClampNeg)] μ (fun r2 μ1 => (¬ L + 1 = 0 ∧ vp_in (x3 + (1 : Int32)) (L + 1 - 1) ∧ wm_OkI 0 272 [.ref 89, .int (xs ((x3 + (1 : Int32))).toNatClampNeg)] μ1 (fun r4 μ3 => ((r2 = r4 → wl_W L xs 1585 [.ref 3000, .ref 0, .ref 89, .int x3] μ3) ∧ (¬ r2 = r4 → (some (Value.int (0 : Int32)) : Option Value) = some (.int 1)))))))) : wl_W L xs 1118 [.ref 3000, .ref 0, .ref 89, .int x3] μ := wl_vc ml_ok ml_c 400 h
set_option maxRecDepth 100000 in
set_option maxHeartbeats 8000000 in
theorem fl_1141 {L : Nat} {xs : Nat → Int32} (x3 : Int32) (μ : wm_M) (h : (¬ L + 1 = 0 ∧ vp_in (x3 + (1 : Int32)) (L + 1 - 1) ∧ (¬ L + 1 = 0 ∧ vp_in (x3 + (2 : Int32)) (L + 1 - 1) ∧ (¬ L + 1 = 0 ∧ vp_in (x3 + (3 : Int32)) (L + 1 - 1) ∧ wm_OkI 0 143 [.ref 0, .int (xs ((x3 + (1 : Int32))).toNatClampNeg), .int (xs ((x3 + (2 : Int32))).toNatClampNeg), .int (xs ((x3 + (3 : Int32))).toNatClampNeg)] μ (fun r2 μ1 => (¬ L + 1 = 0 ∧ vp_in (x3 + (1 : Int32)) (L + 1 - 1) ∧ (¬ L + 1 = 0 ∧ vp_in (x3 + (2 : Int32)) (L + 1 - 1) ∧ (¬ L + 1 = 0 ∧ vp_in (x3 + (3 : Int32)) (L + 1 - 1) ∧ wm_OkI 0 280 [.ref 89, .int (xs ((x3 + (1 : Int32))).toNatClampNeg), .int (xs ((x3 + (2 : Int32))).toNatClampNeg), .int (xs ((x3 + (3 : Int32))).toNatClampNeg)] μ1 (fun r4 μ3 => ((r2 = r4 → wl_W L xs 1585 [.ref 3000, .ref 0, .ref 89, .int x3] μ3) ∧ (¬ r2 = r4 → (some (Value.int (0 : Int32)) : Option Value) = some (.int 1)))))))))))) : wl_W L xs 1141 [.ref 3000, .ref 0, .ref 89, .int x3] μ := wl_vc ml_ok ml_c 400 h
set_option maxRecDepth 100000 in
set_option maxHeartbeats 8000000 in
theorem fl_1184 {L : Nat} {xs : Nat → Int32} (x3 : Int32) (μ : wm_M) (h : wm_OkI 0 144 [.ref 0] μ (fun r2 μ1 => wm_OkI 0 290 [.ref 89] μ1 (fun r4 μ3 => ((r2 = r4 → wl_W L xs 1585 [.ref 3000, .ref 0, .ref 89, .int x3] μ3) ∧ (¬ r2 = r4 → (some (Value.int (0 : Int32)) : Option Value) = some (.int 1)))))) : wl_W L xs 1184 [.ref 3000, .ref 0, .ref 89, .int x3] μ := wl_vc ml_ok ml_c 400 h
set_option maxRecDepth 100000 in
set_option maxHeartbeats 8000000 in
theorem fl_1197 {L : Nat} {xs : Nat → Int32} (x3 : Int32) (μ : wm_M) (h : (¬ L + 1 = 0 ∧ vp_in (x3 + (1 : Int32)) (L + 1 - 1) ∧ (¬ L + 1 = 0 ∧ vp_in (x3 + (2 : Int32)) (L + 1 - 1) ∧ wm_OkI 0 145 [.ref 0, .int (xs ((x3 + (1 : Int32))).toNatClampNeg), .int (xs ((x3 + (2 : Int32))).toNatClampNeg)] μ (fun r2 μ1 => (¬ L + 1 = 0 ∧ vp_in (x3 + (1 : Int32)) (L + 1 - 1) ∧ (¬ L + 1 = 0 ∧ vp_in (x3 + (2 : Int32)) (L + 1 - 1) ∧ wm_OkI 0 291 [.ref 89, .int (xs ((x3 + (1 : Int32))).toNatClampNeg), .int (xs ((x3 + (2 : Int32))).toNatClampNeg)] μ1 (fun r4 μ3 => ((r2 = r4 → wl_W L xs 1585 [.ref 3000, .ref 0, .ref 89, .int x3] μ3) ∧ (¬ r2 = r4 → (some (Value.int (0 : Int32)) : Option Value) = some (.int 1)))))))))) : wl_W L xs 1197 [.ref 3000, .ref 0, .ref 89, .int x3] μ := wl_vc ml_ok ml_c 400 h
set_option maxRecDepth 100000 in
set_option maxHeartbeats 8000000 in
theorem fl_1230 {L : Nat} {xs : Nat → Int32} (x3 : Int32) (μ : wm_M) (h : (¬ L + 1 = 0 ∧ vp_in (x3 + (1 : Int32)) (L + 1 - 1) ∧ wm_OkI 0 146 [.ref 0, .int (xs ((x3 + (1 : Int32))).toNatClampNeg)] μ (fun r2 μ1 => (¬ L + 1 = 0 ∧ vp_in (x3 + (1 : Int32)) (L + 1 - 1) ∧ wm_OkI 0 294 [.ref 89, .int (xs ((x3 + (1 : Int32))).toNatClampNeg)] μ1 (fun r4 μ3 => ((r2 = r4 → wl_W L xs 1585 [.ref 3000, .ref 0, .ref 89, .int x3] μ3) ∧ (¬ r2 = r4 → (some (Value.int (0 : Int32)) : Option Value) = some (.int 1)))))))) : wl_W L xs 1230 [.ref 3000, .ref 0, .ref 89, .int x3] μ := wl_vc ml_ok ml_c 400 h
set_option maxRecDepth 100000 in
set_option maxHeartbeats 8000000 in
theorem fl_1253 {L : Nat} {xs : Nat → Int32} (x3 : Int32) (μ : wm_M) (h : (¬ L + 1 = 0 ∧ vp_in (x3 + (1 : Int32)) (L + 1 - 1) ∧ wm_OkI 0 147 [.ref 0, .int (xs ((x3 + (1 : Int32))).toNatClampNeg)] μ (fun r2 μ1 => (¬ L + 1 = 0 ∧ vp_in (x3 + (1 : Int32)) (L + 1 - 1) ∧ wm_OkI 0 295 [.ref 89, .int (xs ((x3 + (1 : Int32))).toNatClampNeg)] μ1 (fun r4 μ3 => ((r2 = r4 → wl_W L xs 1585 [.ref 3000, .ref 0, .ref 89, .int x3] μ3) ∧ (¬ r2 = r4 → (some (Value.int (0 : Int32)) : Option Value) = some (.int 1)))))))) : wl_W L xs 1253 [.ref 3000, .ref 0, .ref 89, .int x3] μ := wl_vc ml_ok ml_c 400 h
set_option maxRecDepth 100000 in
set_option maxHeartbeats 8000000 in
theorem fl_1276 {L : Nat} {xs : Nat → Int32} (x3 : Int32) (μ : wm_M) (h : (¬ L + 1 = 0 ∧ vp_in (x3 + (1 : Int32)) (L + 1 - 1) ∧ wm_OkI 0 148 [.ref 0, .int (xs ((x3 + (1 : Int32))).toNatClampNeg)] μ (fun r2 μ1 => (¬ L + 1 = 0 ∧ vp_in (x3 + (1 : Int32)) (L + 1 - 1) ∧ wm_OkI 0 296 [.ref 89, .int (xs ((x3 + (1 : Int32))).toNatClampNeg)] μ1 (fun r4 μ3 => ((r2 = r4 → wl_W L xs 1585 [.ref 3000, .ref 0, .ref 89, .int x3] μ3) ∧ (¬ r2 = r4 → (some (Value.int (0 : Int32)) : Option Value) = some (.int 1)))))))) : wl_W L xs 1276 [.ref 3000, .ref 0, .ref 89, .int x3] μ := wl_vc ml_ok ml_c 400 h
set_option maxRecDepth 100000 in
set_option maxHeartbeats 8000000 in
theorem fl_1299 {L : Nat} {xs : Nat → Int32} (x3 : Int32) (μ : wm_M) (h : (¬ L + 1 = 0 ∧ vp_in (x3 + (1 : Int32)) (L + 1 - 1) ∧ wm_OkI 0 149 [.ref 0, .int (xs ((x3 + (1 : Int32))).toNatClampNeg)] μ (fun r2 μ1 => (¬ L + 1 = 0 ∧ vp_in (x3 + (1 : Int32)) (L + 1 - 1) ∧ wm_OkI 0 297 [.ref 89, .int (xs ((x3 + (1 : Int32))).toNatClampNeg)] μ1 (fun r4 μ3 => ((r2 = r4 → wl_W L xs 1585 [.ref 3000, .ref 0, .ref 89, .int x3] μ3) ∧ (¬ r2 = r4 → (some (Value.int (0 : Int32)) : Option Value) = some (.int 1)))))))) : wl_W L xs 1299 [.ref 3000, .ref 0, .ref 89, .int x3] μ := wl_vc ml_ok ml_c 400 h
set_option maxRecDepth 100000 in
set_option maxHeartbeats 8000000 in
theorem fl_1322 {L : Nat} {xs : Nat → Int32} (x3 : Int32) (μ : wm_M) (h : (¬ L + 1 = 0 ∧ vp_in (x3 + (1 : Int32)) (L + 1 - 1) ∧ wm_OkI 0 150 [.ref 0, .int (xs ((x3 + (1 : Int32))).toNatClampNeg)] μ (fun r2 μ1 => (¬ L + 1 = 0 ∧ vp_in (x3 + (1 : Int32)) (L + 1 - 1) ∧ wm_OkI 0 298 [.ref 89, .int (xs ((x3 + (1 : Int32))).toNatClampNeg)] μ1 (fun r4 μ3 => ((r2 = r4 → wl_W L xs 1585 [.ref 3000, .ref 0, .ref 89, .int x3] μ3) ∧ (¬ r2 = r4 → (some (Value.int (0 : Int32)) : Option Value) = some (.int 1)))))))) : wl_W L xs 1322 [.ref 3000, .ref 0, .ref 89, .int x3] μ := wl_vc ml_ok ml_c 400 h
set_option maxRecDepth 100000 in
set_option maxHeartbeats 8000000 in
theorem fl_1345 {L : Nat} {xs : Nat → Int32} (x3 : Int32) (μ : wm_M) (h : (¬ L + 1 = 0 ∧ vp_in (x3 + (1 : Int32)) (L + 1 - 1) ∧ (¬ L + 1 = 0 ∧ vp_in (x3 + (2 : Int32)) (L + 1 - 1) ∧ wm_OkI 0 151 [.ref 0, .int (xs ((x3 + (1 : Int32))).toNatClampNeg), .int (xs ((x3 + (2 : Int32))).toNatClampNeg)] μ (fun r2 μ1 => (¬ L + 1 = 0 ∧ vp_in (x3 + (1 : Int32)) (L + 1 - 1) ∧ (¬ L + 1 = 0 ∧ vp_in (x3 + (2 : Int32)) (L + 1 - 1) ∧ wm_OkI 0 301 [.ref 89, .int (xs ((x3 + (1 : Int32))).toNatClampNeg), .int (xs ((x3 + (2 : Int32))).toNatClampNeg)] μ1 (fun r4 μ3 => ((r2 = r4 → wl_W L xs 1585 [.ref 3000, .ref 0, .ref 89, .int x3] μ3) ∧ (¬ r2 = r4 → (some (Value.int (0 : Int32)) : Option Value) = some (.int 1)))))))))) : wl_W L xs 1345 [.ref 3000, .ref 0, .ref 89, .int x3] μ := wl_vc ml_ok ml_c 400 h
set_option maxRecDepth 100000 in
set_option maxHeartbeats 8000000 in
theorem fl_1378 {L : Nat} {xs : Nat → Int32} (x3 : Int32) (μ : wm_M) (h : (¬ L + 1 = 0 ∧ vp_in (x3 + (1 : Int32)) (L + 1 - 1) ∧ wm_OkI 0 152 [.ref 0, .int (xs ((x3 + (1 : Int32))).toNatClampNeg)] μ (fun r2 μ1 => (¬ L + 1 = 0 ∧ vp_in (x3 + (1 : Int32)) (L + 1 - 1) ∧ wm_OkI 0 302 [.ref 89, .int (xs ((x3 + (1 : Int32))).toNatClampNeg)] μ1 (fun r4 μ3 => ((r2 = r4 → wl_W L xs 1585 [.ref 3000, .ref 0, .ref 89, .int x3] μ3) ∧ (¬ r2 = r4 → (some (Value.int (0 : Int32)) : Option Value) = some (.int 1)))))))) : wl_W L xs 1378 [.ref 3000, .ref 0, .ref 89, .int x3] μ := wl_vc ml_ok ml_c 400 h
set_option maxRecDepth 100000 in
set_option maxHeartbeats 8000000 in
theorem fl_1401 {L : Nat} {xs : Nat → Int32} (x3 : Int32) (μ : wm_M) (h : wm_OkI 0 153 [.ref 0] μ (fun r2 μ1 => wm_OkI 0 303 [.ref 89] μ1 (fun r4 μ3 => ((r2 = r4 → wl_W L xs 1585 [.ref 3000, .ref 0, .ref 89, .int x3] μ3) ∧ (¬ r2 = r4 → (some (Value.int (0 : Int32)) : Option Value) = some (.int 1)))))) : wl_W L xs 1401 [.ref 3000, .ref 0, .ref 89, .int x3] μ := wl_vc ml_ok ml_c 400 h
set_option maxRecDepth 100000 in
set_option maxHeartbeats 8000000 in
theorem fl_1414 {L : Nat} {xs : Nat → Int32} (x3 : Int32) (μ : wm_M) (h : wm_OkI 0 154 [.ref 0] μ (fun r2 μ1 => wm_OkI 0 304 [.ref 89] μ1 (fun r4 μ3 => ((r2 = r4 → wl_W L xs 1585 [.ref 3000, .ref 0, .ref 89, .int x3] μ3) ∧ (¬ r2 = r4 → (some (Value.int (0 : Int32)) : Option Value) = some (.int 1)))))) : wl_W L xs 1414 [.ref 3000, .ref 0, .ref 89, .int x3] μ := wl_vc ml_ok ml_c 400 h
set_option maxRecDepth 100000 in
set_option maxHeartbeats 8000000 in
theorem fl_1427 {L : Nat} {xs : Nat → Int32} (x3 : Int32) (μ : wm_M) (h : (¬ L + 1 = 0 ∧ vp_in (x3 + (1 : Int32)) (L + 1 - 1) ∧ wm_OkI 0 155 [.ref 0, .int (xs ((x3 + (1 : Int32))).toNatClampNeg)] μ (fun r2 μ1 => (¬ L + 1 = 0 ∧ vp_in (x3 + (1 : Int32)) (L + 1 - 1) ∧ wm_OkI 0 305 [.ref 89, .int (xs ((x3 + (1 : Int32))).toNatClampNeg)] μ1 (fun r4 μ3 => ((r2 = r4 → wl_W L xs 1585 [.ref 3000, .ref 0, .ref 89, .int x3] μ3) ∧ (¬ r2 = r4 → (some (Value.int (0 : Int32)) : Option Value) = some (.int 1)))))))) : wl_W L xs 1427 [.ref 3000, .ref 0, .ref 89, .int x3] μ := wl_vc ml_ok ml_c 400 h
set_option maxRecDepth 100000 in
set_option maxHeartbeats 8000000 in
theorem fl_1450 {L : Nat} {xs : Nat → Int32} (x3 : Int32) (μ : wm_M) (h : (¬ L + 1 = 0 ∧ vp_in (x3 + (1 : Int32)) (L + 1 - 1) ∧ (¬ L + 1 = 0 ∧ vp_in (x3 + (2 : Int32)) (L + 1 - 1) ∧ wm_OkI 0 156 [.ref 0, .int (xs ((x3 + (1 : Int32))).toNatClampNeg), .int (xs ((x3 + (2 : Int32))).toNatClampNeg)] μ (fun r2 μ1 => (¬ L + 1 = 0 ∧ vp_in (x3 + (1 : Int32)) (L + 1 - 1) ∧ (¬ L + 1 = 0 ∧ vp_in (x3 + (2 : Int32)) (L + 1 - 1) ∧ wm_OkI 0 306 [.ref 89, .int (xs ((x3 + (1 : Int32))).toNatClampNeg), .int (xs ((x3 + (2 : Int32))).toNatClampNeg)] μ1 (fun r4 μ3 => ((r2 = r4 → wl_W L xs 1585 [.ref 3000, .ref 0, .ref 89, .int x3] μ3) ∧ (¬ r2 = r4 → (some (Value.int (0 : Int32)) : Option Value) = some (.int 1)))))))))) : wl_W L xs 1450 [.ref 3000, .ref 0, .ref 89, .int x3] μ := wl_vc ml_ok ml_c 400 h
set_option maxRecDepth 100000 in
set_option maxHeartbeats 8000000 in
theorem fl_1483 {L : Nat} {xs : Nat → Int32} (x3 : Int32) (μ : wm_M) (h : wm_OkI 0 157 [.ref 0] μ (fun r2 μ1 => wm_OkI 0 307 [.ref 89] μ1 (fun r4 μ3 => ((r2 = r4 → wl_W L xs 1585 [.ref 3000, .ref 0, .ref 89, .int x3] μ3) ∧ (¬ r2 = r4 → (some (Value.int (0 : Int32)) : Option Value) = some (.int 1)))))) : wl_W L xs 1483 [.ref 3000, .ref 0, .ref 89, .int x3] μ := wl_vc ml_ok ml_c 400 h
set_option maxRecDepth 100000 in
set_option maxHeartbeats 8000000 in
theorem fl_1496 {L : Nat} {xs : Nat → Int32} (x3 : Int32) (μ : wm_M) (h : (¬ L + 1 = 0 ∧ vp_in (x3 + (1 : Int32)) (L + 1 - 1) ∧ wm_OkI 0 158 [.ref 0, .int (xs ((x3 + (1 : Int32))).toNatClampNeg)] μ (fun r2 μ1 => (¬ L + 1 = 0 ∧ vp_in (x3 + (1 : Int32)) (L + 1 - 1) ∧ wm_OkI 0 308 [.ref 89, .int (xs ((x3 + (1 : Int32))).toNatClampNeg)] μ1 (fun r4 μ3 => ((r2 = r4 → wl_W L xs 1585 [.ref 3000, .ref 0, .ref 89, .int x3] μ3) ∧ (¬ r2 = r4 → (some (Value.int (0 : Int32)) : Option Value) = some (.int 1)))))))) : wl_W L xs 1496 [.ref 3000, .ref 0, .ref 89, .int x3] μ := wl_vc ml_ok ml_c 400 h
set_option maxRecDepth 100000 in
set_option maxHeartbeats 8000000 in
theorem fl_1519 {L : Nat} {xs : Nat → Int32} (x3 : Int32) (μ : wm_M) (h : (¬ L + 1 = 0 ∧ vp_in (x3 + (1 : Int32)) (L + 1 - 1) ∧ (¬ L + 1 = 0 ∧ vp_in (x3 + (2 : Int32)) (L + 1 - 1) ∧ (¬ L + 1 = 0 ∧ vp_in (x3 + (3 : Int32)) (L + 1 - 1) ∧ wm_OkI 0 159 [.ref 0, .int (xs ((x3 + (1 : Int32))).toNatClampNeg), .int (xs ((x3 + (2 : Int32))).toNatClampNeg), .int (xs ((x3 + (3 : Int32))).toNatClampNeg)] μ (fun r2 μ1 => (¬ L + 1 = 0 ∧ vp_in (x3 + (1 : Int32)) (L + 1 - 1) ∧ (¬ L + 1 = 0 ∧ vp_in (x3 + (2 : Int32)) (L + 1 - 1) ∧ (¬ L + 1 = 0 ∧ vp_in (x3 + (3 : Int32)) (L + 1 - 1) ∧ wm_OkI 0 309 [.ref 89, .int (xs ((x3 + (1 : Int32))).toNatClampNeg), .int (xs ((x3 + (2 : Int32))).toNatClampNeg), .int (xs ((x3 + (3 : Int32))).toNatClampNeg)] μ1 (fun r4 μ3 => ((r2 = r4 → wl_W L xs 1585 [.ref 3000, .ref 0, .ref 89, .int x3] μ3) ∧ (¬ r2 = r4 → (some (Value.int (0 : Int32)) : Option Value) = some (.int 1)))))))))))) : wl_W L xs 1519 [.ref 3000, .ref 0, .ref 89, .int x3] μ := wl_vc ml_ok ml_c 400 h
set_option maxRecDepth 100000 in
set_option maxHeartbeats 8000000 in
theorem fl_1562 {L : Nat} {xs : Nat → Int32} (x3 : Int32) (μ : wm_M) (h : (¬ L + 1 = 0 ∧ vp_in (x3 + (1 : Int32)) (L + 1 - 1) ∧ wm_OkI 0 160 [.ref 0, .int (xs ((x3 + (1 : Int32))).toNatClampNeg)] μ (fun r2 μ1 => (¬ L + 1 = 0 ∧ vp_in (x3 + (1 : Int32)) (L + 1 - 1) ∧ wm_OkI 0 310 [.ref 89, .int (xs ((x3 + (1 : Int32))).toNatClampNeg)] μ1 (fun r4 μ3 => ((r2 = r4 → wl_W L xs 1585 [.ref 3000, .ref 0, .ref 89, .int x3] μ3) ∧ (¬ r2 = r4 → (some (Value.int (0 : Int32)) : Option Value) = some (.int 1)))))))) : wl_W L xs 1562 [.ref 3000, .ref 0, .ref 89, .int x3] μ := wl_vc ml_ok ml_c 400 h
theorem vl1 {i L : Nat} (hi : i + 4 ≤ L) (hL : L ≤ 2048) : vp_in (nI i + (1 : Int32)) (L + 1 - 1) := by
  rw [show nI i + (1 : Int32) = nI (i + 1) from nI_1 i]
  exact vp_in_nI (by omega) (by omega)
theorem vl2 {i L : Nat} (hi : i + 4 ≤ L) (hL : L ≤ 2048) : vp_in (nI i + (2 : Int32)) (L + 1 - 1) := by
  rw [show nI i + (2 : Int32) = nI (i + 2) from nI_add i 2]
  exact vp_in_nI (by omega) (by omega)
theorem vl3 {i L : Nat} (hi : i + 4 ≤ L) (hL : L ≤ 2048) : vp_in (nI i + (3 : Int32)) (L + 1 - 1) := by
  rw [show nI i + (3 : Int32) = nI (i + 3) from nI_add i 3]
  exact vp_in_nI (by omega) (by omega)
theorem wl_cmp (r : Int64) : lg_cmp r r = 0 := by simp [lg_cmp]
theorem ll_end {i L : Nat} (h : L < i + 4) (hi : i ≤ L + 4) (hL : L ≤ 2048) : (Int32.ofNat (L + 1 - 1)) - (4 : Int32) < nI i := by
  rw [show (Int32.ofNat (L + 1 - 1)) = nI L from rfl]
  rcases Nat.lt_or_ge L 4 with z | z
  · have h0 : (0 : Int32) ≤ nI i := nI_le (a := 0) (b := i) (by omega) (by omega)
    have hx : L = 0 ∨ L = 1 ∨ L = 2 ∨ L = 3 := by omega
    refine Int32.lt_of_lt_of_le ?_ h0
    rcases hx with rfl | rfl | rfl | rfl <;> decide
  · have e : nI L - (4 : Int32) = nI (L - 4) := by
      have := nI_add (L - 4) 4
      rw [show L - 4 + 4 = L by omega] at this
      rw [← this]
      exact Int32.add_sub_cancel _ _
    rw [e]
    exact nI_lt (by omega) (by omega)
theorem ql_228 {L : Nat} {xs : Nat → Int32} {i n : Nat} (hi : i + 4 ≤ L) (hL : L ≤ 2048) (hn : n < 8000) {μ : wm_M} (h : Rel n μ) (K : ∀ μ2, Rel (n + 1) μ2 → wl_W L xs 1585 [.ref 3000, .ref 0, .ref 89, .int (nI i)] μ2) : wl_W L xs 228 [.ref 3000, .ref 0, .ref 89, .int (nI i)] μ := by
  have z0 : ¬ L + 1 = 0 := Nat.succ_ne_zero L
  have v1 := vl1 hi hL
  have v2 := vl2 hi hL
  have v3 := vl3 hi hL
  exact fl_228 (nI i) μ ⟨z0, v1, ⟨z0, v2, ⟨z0, v3, (wm_OkI.mono (p_cell _ _ _ h) (fun r1 μ1 h1 => ⟨z0, v1, ⟨z0, v2, ⟨z0, v3, wm_OkI.mono h1 (fun r2 μ2 h2 => ⟨fun _ => K μ2 h2.2, fun z => absurd h2.1 z⟩)⟩⟩⟩))⟩⟩⟩
theorem ql_271 {L : Nat} {xs : Nat → Int32} {i n : Nat} (hi : i + 4 ≤ L) (hL : L ≤ 2048) (hn : n < 8000) {μ : wm_M} (h : Rel n μ) (K : ∀ μ2, Rel (n + 1) μ2 → wl_W L xs 1585 [.ref 3000, .ref 0, .ref 89, .int (nI i)] μ2) : wl_W L xs 271 [.ref 3000, .ref 0, .ref 89, .int (nI i)] μ := by
  have z0 : ¬ L + 1 = 0 := Nat.succ_ne_zero L
  have v1 := vl1 hi hL
  have v2 := vl2 hi hL
  have v3 := vl3 hi hL
  exact fl_271 (nI i) μ ⟨z0, v1, ⟨z0, v2, ⟨z0, v3, (wm_OkI.mono (p_wind _ _ _ h) (fun r1 μ1 h1 => ⟨z0, v1, ⟨z0, v2, ⟨z0, v3, wm_OkI.mono h1 (fun r2 μ2 h2 => ⟨fun _ => K μ2 h2.2, fun z => absurd h2.1 z⟩)⟩⟩⟩))⟩⟩⟩
theorem ql_314 {L : Nat} {xs : Nat → Int32} {i n : Nat} (hi : i + 4 ≤ L) (hL : L ≤ 2048) (hn : n < 8000) {μ : wm_M} (h : Rel n μ) (K : ∀ μ2, Rel (n + 1) μ2 → wl_W L xs 1585 [.ref 3000, .ref 0, .ref 89, .int (nI i)] μ2) : wl_W L xs 314 [.ref 3000, .ref 0, .ref 89, .int (nI i)] μ := by
  have z0 : ¬ L + 1 = 0 := Nat.succ_ne_zero L
  have v1 := vl1 hi hL
  have v2 := vl2 hi hL
  have v3 := vl3 hi hL
  exact fl_314 (nI i) μ ⟨z0, v1, ⟨z0, v2, ⟨z0, v3, (wm_OkI.mono (p_blows _ _ _ h) (fun r1 μ1 h1 => ⟨z0, v1, ⟨z0, v2, ⟨z0, v3, wm_OkI.mono h1 (fun r2 μ2 h2 => ⟨fun _ => K μ2 h2.2, fun z => absurd h2.1 z⟩)⟩⟩⟩))⟩⟩⟩
theorem ql_357 {L : Nat} {xs : Nat → Int32} {i n : Nat} (hi : i + 4 ≤ L) (hL : L ≤ 2048) (hn : n < 8000) {μ : wm_M} (h : Rel n μ) (K : ∀ μ2, Rel (n + 1) μ2 → wl_W L xs 1585 [.ref 3000, .ref 0, .ref 89, .int (nI i)] μ2) : wl_W L xs 357 [.ref 3000, .ref 0, .ref 89, .int (nI i)] μ := by
  have z0 : ¬ L + 1 = 0 := Nat.succ_ne_zero L
  have v1 := vl1 hi hL
  have v2 := vl2 hi hL
  have v3 := vl3 hi hL
  exact fl_357 (nI i) μ ⟨z0, v1, (wm_OkI.mono (p_mark _ h) (fun r1 μ1 h1 => ⟨z0, v1, wm_OkI.mono h1 (fun r2 μ2 h2 => ⟨fun _ => K μ2 h2.2, fun z => absurd h2.1 z⟩)⟩))⟩
theorem ql_380 {L : Nat} {xs : Nat → Int32} {i n : Nat} (hi : i + 4 ≤ L) (hL : L ≤ 2048) (hn : n < 8000) {μ : wm_M} (h : Rel n μ) (K : ∀ μ2, Rel (n + 1) μ2 → wl_W L xs 1585 [.ref 3000, .ref 0, .ref 89, .int (nI i)] μ2) : wl_W L xs 380 [.ref 3000, .ref 0, .ref 89, .int (nI i)] μ := by
  have z0 : ¬ L + 1 = 0 := Nat.succ_ne_zero L
  have v1 := vl1 hi hL
  have v2 := vl2 hi hL
  have v3 := vl3 hi hL
  exact fl_380 (nI i) μ ⟨z0, v1, ⟨z0, v2, ⟨z0, v3, (wm_OkI.mono (p_speed _ _ _ h) (fun r1 μ1 h1 => ⟨z0, v1, ⟨z0, v2, ⟨z0, v3, wm_OkI.mono h1 (fun r2 μ2 h2 => ⟨fun _ => K μ2 h2.2, fun z => absurd h2.1 z⟩)⟩⟩⟩))⟩⟩⟩
theorem ql_423 {L : Nat} {xs : Nat → Int32} {i n : Nat} (hi : i + 4 ≤ L) (hL : L ≤ 2048) (hn : n < 8000) {μ : wm_M} (h : Rel n μ) (K : ∀ μ2, Rel (n + 1) μ2 → wl_W L xs 1585 [.ref 3000, .ref 0, .ref 89, .int (nI i)] μ2) : wl_W L xs 423 [.ref 3000, .ref 0, .ref 89, .int (nI i)] μ := by
  have z0 : ¬ L + 1 = 0 := Nat.succ_ne_zero L
  have v1 := vl1 hi hL
  have v2 := vl2 hi hL
  have v3 := vl3 hi hL
  exact fl_423 (nI i) μ ⟨z0, v1, ⟨z0, v2, ⟨z0, v3, (wm_OkI.mono (p_learn _ _ _ h) (fun r1 μ1 h1 => ⟨z0, v1, ⟨z0, v2, ⟨z0, v3, wm_OkI.mono h1 (fun r2 μ2 h2 => ⟨fun _ => K μ2 h2.2, fun z => absurd h2.1 z⟩)⟩⟩⟩))⟩⟩⟩
theorem ql_466 {L : Nat} {xs : Nat → Int32} {i n : Nat} (hi : i + 4 ≤ L) (hL : L ≤ 2048) (hn : n < 8000) {μ : wm_M} (h : Rel n μ) (K : ∀ μ2, Rel (n + 1) μ2 → wl_W L xs 1585 [.ref 3000, .ref 0, .ref 89, .int (nI i)] μ2) : wl_W L xs 466 [.ref 3000, .ref 0, .ref 89, .int (nI i)] μ := by
  have z0 : ¬ L + 1 = 0 := Nat.succ_ne_zero L
  have v1 := vl1 hi hL
  have v2 := vl2 hi hL
  have v3 := vl3 hi hL
  exact fl_466 (nI i) μ ⟨z0, v1, ⟨z0, v2, ⟨z0, v3, (wm_OkI.mono (p_table _ _ _ h) (fun r1 μ1 h1 => ⟨z0, v1, ⟨z0, v2, ⟨z0, v3, wm_OkI.mono h1 (fun r2 μ2 h2 => ⟨fun _ => K μ2 h2.2, fun z => absurd h2.1 z⟩)⟩⟩⟩))⟩⟩⟩
theorem ql_509 {L : Nat} {xs : Nat → Int32} {i n : Nat} (hi : i + 4 ≤ L) (hL : L ≤ 2048) (hn : n < 8000) {μ : wm_M} (h : Rel n μ) (K : ∀ μ2, Rel (n + 1) μ2 → wl_W L xs 1585 [.ref 3000, .ref 0, .ref 89, .int (nI i)] μ2) : wl_W L xs 509 [.ref 3000, .ref 0, .ref 89, .int (nI i)] μ := by
  have z0 : ¬ L + 1 = 0 := Nat.succ_ne_zero L
  have v1 := vl1 hi hL
  have v2 := vl2 hi hL
  have v3 := vl3 hi hL
  exact fl_509 (nI i) μ ⟨z0, v1, (wm_OkI.mono (p_sail _ h) (fun r1 μ1 h1 => ⟨z0, v1, wm_OkI.mono h1 (fun r2 μ2 h2 => ⟨fun _ => K μ2 h2.2, fun z => absurd h2.1 z⟩)⟩))⟩
theorem ql_532 {L : Nat} {xs : Nat → Int32} {i n : Nat} (hi : i + 4 ≤ L) (hL : L ≤ 2048) (hn : n < 8000) {μ : wm_M} (h : Rel n μ) (K : ∀ μ2, Rel (n + 1) μ2 → wl_W L xs 1585 [.ref 3000, .ref 0, .ref 89, .int (nI i)] μ2) : wl_W L xs 532 [.ref 3000, .ref 0, .ref 89, .int (nI i)] μ := by
  have z0 : ¬ L + 1 = 0 := Nat.succ_ne_zero L
  have v1 := vl1 hi hL
  have v2 := vl2 hi hL
  have v3 := vl3 hi hL
  exact fl_532 (nI i) μ ⟨z0, v1, ⟨z0, v2, ⟨z0, v3, (wm_OkI.mono (p_pace _ _ _ h) (fun r1 μ1 h1 => ⟨z0, v1, ⟨z0, v2, ⟨z0, v3, wm_OkI.mono h1 (fun r2 μ2 h2 => ⟨fun _ => K μ2 h2.2, fun z => absurd h2.1 z⟩)⟩⟩⟩))⟩⟩⟩
theorem ql_575 {L : Nat} {xs : Nat → Int32} {i n : Nat} (hi : i + 4 ≤ L) (hL : L ≤ 2048) (hn : n < 8000) {μ : wm_M} (h : Rel n μ) (K : ∀ μ2, Rel (n + 1) μ2 → wl_W L xs 1585 [.ref 3000, .ref 0, .ref 89, .int (nI i)] μ2) : wl_W L xs 575 [.ref 3000, .ref 0, .ref 89, .int (nI i)] μ := by
  have z0 : ¬ L + 1 = 0 := Nat.succ_ne_zero L
  have v1 := vl1 hi hL
  have v2 := vl2 hi hL
  have v3 := vl3 hi hL
  exact fl_575 (nI i) μ ⟨z0, v1, ⟨z0, v2, (wm_OkI.mono (p_sailOf _ _ h) (fun r1 μ1 h1 => ⟨z0, v1, ⟨z0, v2, wm_OkI.mono h1 (fun r2 μ2 h2 => ⟨fun _ => K μ2 h2.2, fun z => absurd h2.1 z⟩)⟩⟩))⟩⟩
theorem ql_608 {L : Nat} {xs : Nat → Int32} {i n : Nat} (hi : i + 4 ≤ L) (hL : L ≤ 2048) (hn : n < 8000) {μ : wm_M} (h : Rel n μ) (K : ∀ μ2, Rel (n + 1) μ2 → wl_W L xs 1585 [.ref 3000, .ref 0, .ref 89, .int (nI i)] μ2) : wl_W L xs 608 [.ref 3000, .ref 0, .ref 89, .int (nI i)] μ := by
  have z0 : ¬ L + 1 = 0 := Nat.succ_ne_zero L
  have v1 := vl1 hi hL
  have v2 := vl2 hi hL
  have v3 := vl3 hi hL
  exact fl_608 (nI i) μ ⟨z0, v1, ⟨z0, v2, (wm_OkI.mono (p_taken _ _ h) (fun r1 μ1 h1 => ⟨z0, v1, ⟨z0, v2, wm_OkI.mono h1 (fun r2 μ2 h2 => ⟨fun _ => K μ2 h2.2, fun z => absurd h2.1 z⟩)⟩⟩))⟩⟩
theorem ql_641 {L : Nat} {xs : Nat → Int32} {i n : Nat} (hi : i + 4 ≤ L) (hL : L ≤ 2048) (hn : n < 8000) {μ : wm_M} (h : Rel n μ) (K : ∀ μ2, Rel (n + 1) μ2 → wl_W L xs 1585 [.ref 3000, .ref 0, .ref 89, .int (nI i)] μ2) : wl_W L xs 641 [.ref 3000, .ref 0, .ref 89, .int (nI i)] μ := by
  have z0 : ¬ L + 1 = 0 := Nat.succ_ne_zero L
  have v1 := vl1 hi hL
  have v2 := vl2 hi hL
  have v3 := vl3 hi hL
  exact fl_641 (nI i) μ (wm_OkI.mono (p_hand h) (fun r1 μ1 h1 => wm_OkI.mono h1 (fun r2 μ2 h2 => ⟨fun _ => K μ2 h2.2, fun z => absurd h2.1 z⟩)))
theorem ql_654 {L : Nat} {xs : Nat → Int32} {i n : Nat} (hi : i + 4 ≤ L) (hL : L ≤ 2048) (hn : n < 8000) {μ : wm_M} (h : Rel n μ) (K : ∀ μ2, Rel (n + 1) μ2 → wl_W L xs 1585 [.ref 3000, .ref 0, .ref 89, .int (nI i)] μ2) : wl_W L xs 654 [.ref 3000, .ref 0, .ref 89, .int (nI i)] μ := by
  have z0 : ¬ L + 1 = 0 := Nat.succ_ne_zero L
  have v1 := vl1 hi hL
  have v2 := vl2 hi hL
  have v3 := vl3 hi hL
  exact fl_654 (nI i) μ ⟨z0, v1, ⟨z0, v2, (wm_OkI.mono (p_sleep _ _ h) (fun r1 μ1 h1 => ⟨z0, v1, ⟨z0, v2, wm_OkI.mono h1 (fun r2 μ2 h2 => ⟨fun _ => K μ2 h2.2, fun z => absurd h2.1 z⟩)⟩⟩))⟩⟩
theorem ql_687 {L : Nat} {xs : Nat → Int32} {i n : Nat} (hi : i + 4 ≤ L) (hL : L ≤ 2048) (hn : n < 8000) {μ : wm_M} (h : Rel n μ) (K : ∀ μ2, Rel (n + 1) μ2 → wl_W L xs 1585 [.ref 3000, .ref 0, .ref 89, .int (nI i)] μ2) : wl_W L xs 687 [.ref 3000, .ref 0, .ref 89, .int (nI i)] μ := by
  have z0 : ¬ L + 1 = 0 := Nat.succ_ne_zero L
  have v1 := vl1 hi hL
  have v2 := vl2 hi hL
  have v3 := vl3 hi hL
  exact fl_687 (nI i) μ ⟨z0, v1, ⟨z0, v2, (wm_OkI.mono (p_feed _ _ h) (fun r1 μ1 h1 => ⟨z0, v1, ⟨z0, v2, wm_OkI.mono h1 (fun r2 μ2 h2 => ⟨fun _ => K μ2 h2.2, fun z => absurd h2.1 z⟩)⟩⟩))⟩⟩
theorem ql_720 {L : Nat} {xs : Nat → Int32} {i n : Nat} (hi : i + 4 ≤ L) (hL : L ≤ 2048) (hn : n < 8000) {μ : wm_M} (h : Rel n μ) (K : ∀ μ2, Rel (n + 1) μ2 → wl_W L xs 1585 [.ref 3000, .ref 0, .ref 89, .int (nI i)] μ2) : wl_W L xs 720 [.ref 3000, .ref 0, .ref 89, .int (nI i)] μ := by
  have z0 : ¬ L + 1 = 0 := Nat.succ_ne_zero L
  have v1 := vl1 hi hL
  have v2 := vl2 hi hL
  have v3 := vl3 hi hL
  exact fl_720 (nI i) μ (wm_OkI.mono (p_wipe h) (fun r1 μ1 h1 => wm_OkI.mono h1 (fun r2 μ2 h2 => ⟨fun _ => K μ2 h2.2, fun z => absurd h2.1 z⟩)))
theorem ql_733 {L : Nat} {xs : Nat → Int32} {i n : Nat} (hi : i + 4 ≤ L) (hL : L ≤ 2048) (hn : n < 8000) {μ : wm_M} (h : Rel n μ) (K : ∀ μ2, Rel (n + 1) μ2 → wl_W L xs 1585 [.ref 3000, .ref 0, .ref 89, .int (nI i)] μ2) : wl_W L xs 733 [.ref 3000, .ref 0, .ref 89, .int (nI i)] μ := by
  have z0 : ¬ L + 1 = 0 := Nat.succ_ne_zero L
  have v1 := vl1 hi hL
  have v2 := vl2 hi hL
  have v3 := vl3 hi hL
  exact fl_733 (nI i) μ ⟨z0, v1, ⟨z0, v2, (wm_OkI.mono (p_rule _ _ h) (fun r1 μ1 h1 => ⟨z0, v1, ⟨z0, v2, wm_OkI.mono h1 (fun r2 μ2 h2 => ⟨fun _ => K μ2 h2.2, fun z => absurd h2.1 z⟩)⟩⟩))⟩⟩
theorem ql_766 {L : Nat} {xs : Nat → Int32} {i n : Nat} (hi : i + 4 ≤ L) (hL : L ≤ 2048) (hn : n < 8000) {μ : wm_M} (h : Rel n μ) (K : ∀ μ2, Rel (n + 1) μ2 → wl_W L xs 1585 [.ref 3000, .ref 0, .ref 89, .int (nI i)] μ2) : wl_W L xs 766 [.ref 3000, .ref 0, .ref 89, .int (nI i)] μ := by
  have z0 : ¬ L + 1 = 0 := Nat.succ_ne_zero L
  have v1 := vl1 hi hL
  have v2 := vl2 hi hL
  have v3 := vl3 hi hL
  exact fl_766 (nI i) μ ⟨z0, v1, ⟨z0, v2, ⟨z0, v3, (wm_OkI.mono (p_says _ _ _ h) (fun r1 μ1 h1 => ⟨z0, v1, ⟨z0, v2, ⟨z0, v3, wm_OkI.mono h1 (fun r2 μ2 h2 => ⟨fun _ => K μ2 h2.2, fun z => absurd h2.1 z⟩)⟩⟩⟩))⟩⟩⟩
theorem ql_809 {L : Nat} {xs : Nat → Int32} {i n : Nat} (hi : i + 4 ≤ L) (hL : L ≤ 2048) (hn : n < 8000) {μ : wm_M} (h : Rel n μ) (K : ∀ μ2, Rel (n + 1) μ2 → wl_W L xs 1585 [.ref 3000, .ref 0, .ref 89, .int (nI i)] μ2) : wl_W L xs 809 [.ref 3000, .ref 0, .ref 89, .int (nI i)] μ := by
  have z0 : ¬ L + 1 = 0 := Nat.succ_ne_zero L
  have v1 := vl1 hi hL
  have v2 := vl2 hi hL
  have v3 := vl3 hi hL
  exact fl_809 (nI i) μ ⟨z0, v1, ⟨z0, v2, ⟨z0, v3, (wm_OkI.mono (p_why _ _ _ h) (fun r1 μ1 h1 => ⟨z0, v1, ⟨z0, v2, ⟨z0, v3, wm_OkI.mono h1 (fun r2 μ2 h2 => ⟨fun _ => K μ2 h2.2, fun z => absurd h2.1 z⟩)⟩⟩⟩))⟩⟩⟩
theorem ql_852 {L : Nat} {xs : Nat → Int32} {i n : Nat} (hi : i + 4 ≤ L) (hL : L ≤ 2048) (hn : n < 8000) {μ : wm_M} (h : Rel n μ) (K : ∀ μ2, Rel (n + 1) μ2 → wl_W L xs 1585 [.ref 3000, .ref 0, .ref 89, .int (nI i)] μ2) : wl_W L xs 852 [.ref 3000, .ref 0, .ref 89, .int (nI i)] μ := by
  have z0 : ¬ L + 1 = 0 := Nat.succ_ne_zero L
  have v1 := vl1 hi hL
  have v2 := vl2 hi hL
  have v3 := vl3 hi hL
  exact fl_852 (nI i) μ ⟨z0, v1, ⟨z0, v2, ⟨z0, v3, (wm_OkI.mono (p_soonest _ _ _ hn h) (fun r1 μ1 h1 => ⟨z0, v1, ⟨z0, v2, ⟨z0, v3, wm_OkI.mono h1 (fun r2 μ2 h2 => ⟨fun _ => K μ2 h2.2, fun z => absurd h2.1 z⟩)⟩⟩⟩))⟩⟩⟩
theorem ql_895 {L : Nat} {xs : Nat → Int32} {i n : Nat} (hi : i + 4 ≤ L) (hL : L ≤ 2048) (hn : n < 8000) {μ : wm_M} (h : Rel n μ) (K : ∀ μ2, Rel (n + 1) μ2 → wl_W L xs 1585 [.ref 3000, .ref 0, .ref 89, .int (nI i)] μ2) : wl_W L xs 895 [.ref 3000, .ref 0, .ref 89, .int (nI i)] μ := by
  have z0 : ¬ L + 1 = 0 := Nat.succ_ne_zero L
  have v1 := vl1 hi hL
  have v2 := vl2 hi hL
  have v3 := vl3 hi hL
  exact fl_895 (nI i) μ ⟨z0, v1, ⟨z0, v2, ⟨z0, v3, (wm_OkI.mono (p_plan _ _ _ hn h) (fun r1 μ1 h1 => ⟨z0, v1, ⟨z0, v2, ⟨z0, v3, wm_OkI.mono h1 (fun r2 μ2 h2 => ⟨fun _ => K μ2 h2.2, fun z => absurd h2.1 z⟩)⟩⟩⟩))⟩⟩⟩
theorem ql_938 {L : Nat} {xs : Nat → Int32} {i n : Nat} (hi : i + 4 ≤ L) (hL : L ≤ 2048) (hn : n < 8000) {μ : wm_M} (h : Rel n μ) (K : ∀ μ2, Rel (n + 1) μ2 → wl_W L xs 1585 [.ref 3000, .ref 0, .ref 89, .int (nI i)] μ2) : wl_W L xs 938 [.ref 3000, .ref 0, .ref 89, .int (nI i)] μ := by
  have z0 : ¬ L + 1 = 0 := Nat.succ_ne_zero L
  have v1 := vl1 hi hL
  have v2 := vl2 hi hL
  have v3 := vl3 hi hL
  exact fl_938 (nI i) μ ⟨z0, v1, ⟨z0, v2, (wm_OkI.mono (p_telling _ _ h) (fun r1 μ1 h1 => ⟨z0, v1, ⟨z0, v2, wm_OkI.mono h1 (fun r2 μ2 h2 => ⟨fun _ => K μ2 h2.2, fun z => absurd h2.1 z⟩)⟩⟩))⟩⟩
theorem ql_971 {L : Nat} {xs : Nat → Int32} {i n : Nat} (hi : i + 4 ≤ L) (hL : L ≤ 2048) (hn : n < 8000) {μ : wm_M} (h : Rel n μ) (K : ∀ μ2, Rel (n + 1) μ2 → wl_W L xs 1585 [.ref 3000, .ref 0, .ref 89, .int (nI i)] μ2) : wl_W L xs 971 [.ref 3000, .ref 0, .ref 89, .int (nI i)] μ := by
  have z0 : ¬ L + 1 = 0 := Nat.succ_ne_zero L
  have v1 := vl1 hi hL
  have v2 := vl2 hi hL
  have v3 := vl3 hi hL
  exact fl_971 (nI i) μ ⟨z0, v1, ⟨z0, v2, (wm_OkI.mono (p_choice _ _ h) (fun r1 μ1 h1 => ⟨z0, v1, ⟨z0, v2, wm_OkI.mono h1 (fun r2 μ2 h2 => ⟨fun _ => K μ2 h2.2, fun z => absurd h2.1 z⟩)⟩⟩))⟩⟩
theorem ql_1004 {L : Nat} {xs : Nat → Int32} {i n : Nat} (hi : i + 4 ≤ L) (hL : L ≤ 2048) (hn : n < 8000) {μ : wm_M} (h : Rel n μ) (K : ∀ μ2, Rel (n + 1) μ2 → wl_W L xs 1585 [.ref 3000, .ref 0, .ref 89, .int (nI i)] μ2) : wl_W L xs 1004 [.ref 3000, .ref 0, .ref 89, .int (nI i)] μ := by
  have z0 : ¬ L + 1 = 0 := Nat.succ_ne_zero L
  have v1 := vl1 hi hL
  have v2 := vl2 hi hL
  have v3 := vl3 hi hL
  exact fl_1004 (nI i) μ ⟨z0, v1, ⟨z0, v2, (wm_OkI.mono (p_group _ _ h) (fun r1 μ1 h1 => ⟨z0, v1, ⟨z0, v2, wm_OkI.mono h1 (fun r2 μ2 h2 => ⟨fun _ => K μ2 h2.2, fun z => absurd h2.1 z⟩)⟩⟩))⟩⟩
theorem ql_1037 {L : Nat} {xs : Nat → Int32} {i n : Nat} (hi : i + 4 ≤ L) (hL : L ≤ 2048) (hn : n < 8000) {μ : wm_M} (h : Rel n μ) (K : ∀ μ2, Rel (n + 1) μ2 → wl_W L xs 1585 [.ref 3000, .ref 0, .ref 89, .int (nI i)] μ2) : wl_W L xs 1037 [.ref 3000, .ref 0, .ref 89, .int (nI i)] μ := by
  have z0 : ¬ L + 1 = 0 := Nat.succ_ne_zero L
  have v1 := vl1 hi hL
  have v2 := vl2 hi hL
  have v3 := vl3 hi hL
  exact fl_1037 (nI i) μ ⟨z0, v1, ⟨z0, v2, (wm_OkI.mono (p_comes _ _ hn h) (fun r1 μ1 h1 => ⟨z0, v1, ⟨z0, v2, wm_OkI.mono h1 (fun r2 μ2 h2 => ⟨fun _ => K μ2 h2.2, fun z => absurd h2.1 z⟩)⟩⟩))⟩⟩
theorem ql_1070 {L : Nat} {xs : Nat → Int32} {i n : Nat} (hi : i + 4 ≤ L) (hL : L ≤ 2048) (hn : n < 8000) {μ : wm_M} (h : Rel n μ) (K : ∀ μ2, Rel (n + 1) μ2 → wl_W L xs 1585 [.ref 3000, .ref 0, .ref 89, .int (nI i)] μ2) : wl_W L xs 1070 [.ref 3000, .ref 0, .ref 89, .int (nI i)] μ := by
  have z0 : ¬ L + 1 = 0 := Nat.succ_ne_zero L
  have v1 := vl1 hi hL
  have v2 := vl2 hi hL
  have v3 := vl3 hi hL
  exact fl_1070 (nI i) μ ⟨z0, v1, ⟨z0, v2, (wm_OkJ.mono (p_tree _ _ hn h) (fun r1 μ1 h1 => ⟨z0, v1, ⟨z0, v2, wm_OkJ.mono h1 (fun r2 μ2 h2 => ⟨fun _ => K μ2 h2.2, fun z => absurd (by rw [h2.1]; exact wl_cmp _) z⟩)⟩⟩))⟩⟩
theorem ql_1104 {L : Nat} {xs : Nat → Int32} {i n : Nat} (hi : i + 4 ≤ L) (hL : L ≤ 2048) (hn : n < 8000) {μ : wm_M} (h : Rel n μ) (K : ∀ μ2, Rel (n + 1) μ2 → wl_W L xs 1585 [.ref 3000, .ref 0, .ref 89, .int (nI i)] μ2) : wl_W L xs 1104 [.ref 3000, .ref 0, .ref 89, .int (nI i)] μ := by
  have z0 : ¬ L + 1 = 0 := Nat.succ_ne_zero L
  have v1 := vl1 hi hL
  have v2 := vl2 hi hL
  have v3 := vl3 hi hL
  exact fl_1104 (nI i) μ (wm_OkJ.mono (p_worth hn h) (fun r1 μ1 h1 => wm_OkJ.mono h1 (fun r2 μ2 h2 => ⟨fun _ => K μ2 h2.2, fun z => absurd (by rw [h2.1]; exact wl_cmp _) z⟩)))
theorem ql_1118 {L : Nat} {xs : Nat → Int32} {i n : Nat} (hi : i + 4 ≤ L) (hL : L ≤ 2048) (hn : n < 8000) {μ : wm_M} (h : Rel n μ) (K : ∀ μ2, Rel (n + 1) μ2 → wl_W L xs 1585 [.ref 3000, .ref 0, .ref 89, .int (nI i)] μ2) : wl_W L xs 1118 [.ref 3000, .ref 0, .ref 89, .int (nI i)] μ := by
  have z0 : ¬ L + 1 = 0 := Nat.succ_ne_zero L
  have v1 := vl1 hi hL
  have v2 := vl2 hi hL
  have v3 := vl3 hi hL
  exact fl_1118 (nI i) μ ⟨z0, v1, (wm_OkI.mono (p_weight _ h) (fun r1 μ1 h1 => ⟨z0, v1, wm_OkI.mono h1 (fun r2 μ2 h2 => ⟨fun _ => K μ2 h2.2, fun z => absurd h2.1 z⟩)⟩))⟩
theorem ql_1141 {L : Nat} {xs : Nat → Int32} {i n : Nat} (hi : i + 4 ≤ L) (hL : L ≤ 2048) (hn : n < 8000) {μ : wm_M} (h : Rel n μ) (K : ∀ μ2, Rel (n + 1) μ2 → wl_W L xs 1585 [.ref 3000, .ref 0, .ref 89, .int (nI i)] μ2) : wl_W L xs 1141 [.ref 3000, .ref 0, .ref 89, .int (nI i)] μ := by
  have z0 : ¬ L + 1 = 0 := Nat.succ_ne_zero L
  have v1 := vl1 hi hL
  have v2 := vl2 hi hL
  have v3 := vl3 hi hL
  exact fl_1141 (nI i) μ ⟨z0, v1, ⟨z0, v2, ⟨z0, v3, (wm_OkI.mono (p_rival _ _ _ h) (fun r1 μ1 h1 => ⟨z0, v1, ⟨z0, v2, ⟨z0, v3, wm_OkI.mono h1 (fun r2 μ2 h2 => ⟨fun _ => K μ2 h2.2, fun z => absurd h2.1 z⟩)⟩⟩⟩))⟩⟩⟩
theorem ql_1184 {L : Nat} {xs : Nat → Int32} {i n : Nat} (hi : i + 4 ≤ L) (hL : L ≤ 2048) (hn : n < 8000) {μ : wm_M} (h : Rel n μ) (K : ∀ μ2, Rel (n + 1) μ2 → wl_W L xs 1585 [.ref 3000, .ref 0, .ref 89, .int (nI i)] μ2) : wl_W L xs 1184 [.ref 3000, .ref 0, .ref 89, .int (nI i)] μ := by
  have z0 : ¬ L + 1 = 0 := Nat.succ_ne_zero L
  have v1 := vl1 hi hL
  have v2 := vl2 hi hL
  have v3 := vl3 hi hL
  exact fl_1184 (nI i) μ (wm_OkI.mono (p_game h) (fun r1 μ1 h1 => wm_OkI.mono h1 (fun r2 μ2 h2 => ⟨fun _ => K μ2 h2.2, fun z => absurd h2.1 z⟩)))
theorem ql_1197 {L : Nat} {xs : Nat → Int32} {i n : Nat} (hi : i + 4 ≤ L) (hL : L ≤ 2048) (hn : n < 8000) {μ : wm_M} (h : Rel n μ) (K : ∀ μ2, Rel (n + 1) μ2 → wl_W L xs 1585 [.ref 3000, .ref 0, .ref 89, .int (nI i)] μ2) : wl_W L xs 1197 [.ref 3000, .ref 0, .ref 89, .int (nI i)] μ := by
  have z0 : ¬ L + 1 = 0 := Nat.succ_ne_zero L
  have v1 := vl1 hi hL
  have v2 := vl2 hi hL
  have v3 := vl3 hi hL
  exact fl_1197 (nI i) μ ⟨z0, v1, ⟨z0, v2, (wm_OkI.mono (p_at _ _ h) (fun r1 μ1 h1 => ⟨z0, v1, ⟨z0, v2, wm_OkI.mono h1 (fun r2 μ2 h2 => ⟨fun _ => K μ2 h2.2, fun z => absurd h2.1 z⟩)⟩⟩))⟩⟩
theorem ql_1230 {L : Nat} {xs : Nat → Int32} {i n : Nat} (hi : i + 4 ≤ L) (hL : L ≤ 2048) (hn : n < 8000) {μ : wm_M} (h : Rel n μ) (K : ∀ μ2, Rel (n + 1) μ2 → wl_W L xs 1585 [.ref 3000, .ref 0, .ref 89, .int (nI i)] μ2) : wl_W L xs 1230 [.ref 3000, .ref 0, .ref 89, .int (nI i)] μ := by
  have z0 : ¬ L + 1 = 0 := Nat.succ_ne_zero L
  have v1 := vl1 hi hL
  have v2 := vl2 hi hL
  have v3 := vl3 hi hL
  exact fl_1230 (nI i) μ ⟨z0, v1, (wm_OkI.mono (p_stay _ hn h) (fun r1 μ1 h1 => ⟨z0, v1, wm_OkI.mono h1 (fun r2 μ2 h2 => ⟨fun _ => K μ2 h2.2, fun z => absurd h2.1 z⟩)⟩))⟩
theorem ql_1253 {L : Nat} {xs : Nat → Int32} {i n : Nat} (hi : i + 4 ≤ L) (hL : L ≤ 2048) (hn : n < 8000) {μ : wm_M} (h : Rel n μ) (K : ∀ μ2, Rel (n + 1) μ2 → wl_W L xs 1585 [.ref 3000, .ref 0, .ref 89, .int (nI i)] μ2) : wl_W L xs 1253 [.ref 3000, .ref 0, .ref 89, .int (nI i)] μ := by
  have z0 : ¬ L + 1 = 0 := Nat.succ_ne_zero L
  have v1 := vl1 hi hL
  have v2 := vl2 hi hL
  have v3 := vl3 hi hL
  exact fl_1253 (nI i) μ ⟨z0, v1, (wm_OkI.mono (p_go _ hn h) (fun r1 μ1 h1 => ⟨z0, v1, wm_OkI.mono h1 (fun r2 μ2 h2 => ⟨fun _ => K μ2 h2.2, fun z => absurd h2.1 z⟩)⟩))⟩
theorem ql_1276 {L : Nat} {xs : Nat → Int32} {i n : Nat} (hi : i + 4 ≤ L) (hL : L ≤ 2048) (hn : n < 8000) {μ : wm_M} (h : Rel n μ) (K : ∀ μ2, Rel (n + 1) μ2 → wl_W L xs 1585 [.ref 3000, .ref 0, .ref 89, .int (nI i)] μ2) : wl_W L xs 1276 [.ref 3000, .ref 0, .ref 89, .int (nI i)] μ := by
  have z0 : ¬ L + 1 = 0 := Nat.succ_ne_zero L
  have v1 := vl1 hi hL
  have v2 := vl2 hi hL
  have v3 := vl3 hi hL
  exact fl_1276 (nI i) μ ⟨z0, v1, (wm_OkI.mono (p_raise _ hn h) (fun r1 μ1 h1 => ⟨z0, v1, wm_OkI.mono h1 (fun r2 μ2 h2 => ⟨fun _ => K μ2 h2.2, fun z => absurd h2.1 z⟩)⟩))⟩
theorem ql_1299 {L : Nat} {xs : Nat → Int32} {i n : Nat} (hi : i + 4 ≤ L) (hL : L ≤ 2048) (hn : n < 8000) {μ : wm_M} (h : Rel n μ) (K : ∀ μ2, Rel (n + 1) μ2 → wl_W L xs 1585 [.ref 3000, .ref 0, .ref 89, .int (nI i)] μ2) : wl_W L xs 1299 [.ref 3000, .ref 0, .ref 89, .int (nI i)] μ := by
  have z0 : ¬ L + 1 = 0 := Nat.succ_ne_zero L
  have v1 := vl1 hi hL
  have v2 := vl2 hi hL
  have v3 := vl3 hi hL
  exact fl_1299 (nI i) μ ⟨z0, v1, (wm_OkI.mono (p_mend _ hn h) (fun r1 μ1 h1 => ⟨z0, v1, wm_OkI.mono h1 (fun r2 μ2 h2 => ⟨fun _ => K μ2 h2.2, fun z => absurd h2.1 z⟩)⟩))⟩
theorem ql_1322 {L : Nat} {xs : Nat → Int32} {i n : Nat} (hi : i + 4 ≤ L) (hL : L ≤ 2048) (hn : n < 8000) {μ : wm_M} (h : Rel n μ) (K : ∀ μ2, Rel (n + 1) μ2 → wl_W L xs 1585 [.ref 3000, .ref 0, .ref 89, .int (nI i)] μ2) : wl_W L xs 1322 [.ref 3000, .ref 0, .ref 89, .int (nI i)] μ := by
  have z0 : ¬ L + 1 = 0 := Nat.succ_ne_zero L
  have v1 := vl1 hi hL
  have v2 := vl2 hi hL
  have v3 := vl3 hi hL
  exact fl_1322 (nI i) μ ⟨z0, v1, (wm_OkI.mono (p_boat _ hn h) (fun r1 μ1 h1 => ⟨z0, v1, wm_OkI.mono h1 (fun r2 μ2 h2 => ⟨fun _ => K μ2 h2.2, fun z => absurd h2.1 z⟩)⟩))⟩
theorem ql_1345 {L : Nat} {xs : Nat → Int32} {i n : Nat} (hi : i + 4 ≤ L) (hL : L ≤ 2048) (hn : n < 8000) {μ : wm_M} (h : Rel n μ) (K : ∀ μ2, Rel (n + 1) μ2 → wl_W L xs 1585 [.ref 3000, .ref 0, .ref 89, .int (nI i)] μ2) : wl_W L xs 1345 [.ref 3000, .ref 0, .ref 89, .int (nI i)] μ := by
  have z0 : ¬ L + 1 = 0 := Nat.succ_ne_zero L
  have v1 := vl1 hi hL
  have v2 := vl2 hi hL
  have v3 := vl3 hi hL
  exact fl_1345 (nI i) μ ⟨z0, v1, ⟨z0, v2, (wm_OkI.mono (p_lost _ _ hn h) (fun r1 μ1 h1 => ⟨z0, v1, ⟨z0, v2, wm_OkI.mono h1 (fun r2 μ2 h2 => ⟨fun _ => K μ2 h2.2, fun z => absurd h2.1 z⟩)⟩⟩))⟩⟩
theorem ql_1378 {L : Nat} {xs : Nat → Int32} {i n : Nat} (hi : i + 4 ≤ L) (hL : L ≤ 2048) (hn : n < 8000) {μ : wm_M} (h : Rel n μ) (K : ∀ μ2, Rel (n + 1) μ2 → wl_W L xs 1585 [.ref 3000, .ref 0, .ref 89, .int (nI i)] μ2) : wl_W L xs 1378 [.ref 3000, .ref 0, .ref 89, .int (nI i)] μ := by
  have z0 : ¬ L + 1 = 0 := Nat.succ_ne_zero L
  have v1 := vl1 hi hL
  have v2 := vl2 hi hL
  have v3 := vl3 hi hL
  exact fl_1378 (nI i) μ ⟨z0, v1, (wm_OkI.mono (p_count _ h) (fun r1 μ1 h1 => ⟨z0, v1, wm_OkI.mono h1 (fun r2 μ2 h2 => ⟨fun _ => K μ2 h2.2, fun z => absurd h2.1 z⟩)⟩))⟩
theorem ql_1401 {L : Nat} {xs : Nat → Int32} {i n : Nat} (hi : i + 4 ≤ L) (hL : L ≤ 2048) (hn : n < 8000) {μ : wm_M} (h : Rel n μ) (K : ∀ μ2, Rel (n + 1) μ2 → wl_W L xs 1585 [.ref 3000, .ref 0, .ref 89, .int (nI i)] μ2) : wl_W L xs 1401 [.ref 3000, .ref 0, .ref 89, .int (nI i)] μ := by
  have z0 : ¬ L + 1 = 0 := Nat.succ_ne_zero L
  have v1 := vl1 hi hL
  have v2 := vl2 hi hL
  have v3 := vl3 hi hL
  exact fl_1401 (nI i) μ (wm_OkI.mono (p_image h) (fun r1 μ1 h1 => wm_OkI.mono h1 (fun r2 μ2 h2 => ⟨fun _ => K μ2 h2.2, fun z => absurd h2.1 z⟩)))
theorem ql_1414 {L : Nat} {xs : Nat → Int32} {i n : Nat} (hi : i + 4 ≤ L) (hL : L ≤ 2048) (hn : n < 8000) {μ : wm_M} (h : Rel n μ) (K : ∀ μ2, Rel (n + 1) μ2 → wl_W L xs 1585 [.ref 3000, .ref 0, .ref 89, .int (nI i)] μ2) : wl_W L xs 1414 [.ref 3000, .ref 0, .ref 89, .int (nI i)] μ := by
  have z0 : ¬ L + 1 = 0 := Nat.succ_ne_zero L
  have v1 := vl1 hi hL
  have v2 := vl2 hi hL
  have v3 := vl3 hi hL
  exact fl_1414 (nI i) μ (wm_OkI.mono (p_back h) (fun r1 μ1 h1 => wm_OkI.mono h1 (fun r2 μ2 h2 => ⟨fun _ => K μ2 h2.2, fun z => absurd h2.1 z⟩)))
theorem ql_1427 {L : Nat} {xs : Nat → Int32} {i n : Nat} (hi : i + 4 ≤ L) (hL : L ≤ 2048) (hn : n < 8000) {μ : wm_M} (h : Rel n μ) (K : ∀ μ2, Rel (n + 1) μ2 → wl_W L xs 1585 [.ref 3000, .ref 0, .ref 89, .int (nI i)] μ2) : wl_W L xs 1427 [.ref 3000, .ref 0, .ref 89, .int (nI i)] μ := by
  have z0 : ¬ L + 1 = 0 := Nat.succ_ne_zero L
  have v1 := vl1 hi hL
  have v2 := vl2 hi hL
  have v3 := vl3 hi hL
  exact fl_1427 (nI i) μ ⟨z0, v1, (wm_OkI.mono (p_lay _ h) (fun r1 μ1 h1 => ⟨z0, v1, wm_OkI.mono h1 (fun r2 μ2 h2 => ⟨fun _ => K μ2 h2.2, fun z => absurd h2.1 z⟩)⟩))⟩
theorem ql_1450 {L : Nat} {xs : Nat → Int32} {i n : Nat} (hi : i + 4 ≤ L) (hL : L ≤ 2048) (hn : n < 8000) {μ : wm_M} (h : Rel n μ) (K : ∀ μ2, Rel (n + 1) μ2 → wl_W L xs 1585 [.ref 3000, .ref 0, .ref 89, .int (nI i)] μ2) : wl_W L xs 1450 [.ref 3000, .ref 0, .ref 89, .int (nI i)] μ := by
  have z0 : ¬ L + 1 = 0 := Nat.succ_ne_zero L
  have v1 := vl1 hi hL
  have v2 := vl2 hi hL
  have v3 := vl3 hi hL
  exact fl_1450 (nI i) μ ⟨z0, v1, ⟨z0, v2, (wm_OkI.mono (p_set _ _ h) (fun r1 μ1 h1 => ⟨z0, v1, ⟨z0, v2, wm_OkI.mono h1 (fun r2 μ2 h2 => ⟨fun _ => K μ2 h2.2, fun z => absurd h2.1 z⟩)⟩⟩))⟩⟩
theorem ql_1483 {L : Nat} {xs : Nat → Int32} {i n : Nat} (hi : i + 4 ≤ L) (hL : L ≤ 2048) (hn : n < 8000) {μ : wm_M} (h : Rel n μ) (K : ∀ μ2, Rel (n + 1) μ2 → wl_W L xs 1585 [.ref 3000, .ref 0, .ref 89, .int (nI i)] μ2) : wl_W L xs 1483 [.ref 3000, .ref 0, .ref 89, .int (nI i)] μ := by
  have z0 : ¬ L + 1 = 0 := Nat.succ_ne_zero L
  have v1 := vl1 hi hL
  have v2 := vl2 hi hL
  have v3 := vl3 hi hL
  exact fl_1483 (nI i) μ (wm_OkI.mono (p_tear h) (fun r1 μ1 h1 => wm_OkI.mono h1 (fun r2 μ2 h2 => ⟨fun _ => K μ2 h2.2, fun z => absurd h2.1 z⟩)))
theorem ql_1496 {L : Nat} {xs : Nat → Int32} {i n : Nat} (hi : i + 4 ≤ L) (hL : L ≤ 2048) (hn : n < 8000) {μ : wm_M} (h : Rel n μ) (K : ∀ μ2, Rel (n + 1) μ2 → wl_W L xs 1585 [.ref 3000, .ref 0, .ref 89, .int (nI i)] μ2) : wl_W L xs 1496 [.ref 3000, .ref 0, .ref 89, .int (nI i)] μ := by
  have z0 : ¬ L + 1 = 0 := Nat.succ_ne_zero L
  have v1 := vl1 hi hL
  have v2 := vl2 hi hL
  have v3 := vl3 hi hL
  exact fl_1496 (nI i) μ ⟨z0, v1, (wm_OkI.mono (p_row _ h) (fun r1 μ1 h1 => ⟨z0, v1, wm_OkI.mono h1 (fun r2 μ2 h2 => ⟨fun _ => K μ2 h2.2, fun z => absurd h2.1 z⟩)⟩))⟩
theorem ql_1519 {L : Nat} {xs : Nat → Int32} {i n : Nat} (hi : i + 4 ≤ L) (hL : L ≤ 2048) (hn : n < 8000) {μ : wm_M} (h : Rel n μ) (K : ∀ μ2, Rel (n + 1) μ2 → wl_W L xs 1585 [.ref 3000, .ref 0, .ref 89, .int (nI i)] μ2) : wl_W L xs 1519 [.ref 3000, .ref 0, .ref 89, .int (nI i)] μ := by
  have z0 : ¬ L + 1 = 0 := Nat.succ_ne_zero L
  have v1 := vl1 hi hL
  have v2 := vl2 hi hL
  have v3 := vl3 hi hL
  exact fl_1519 (nI i) μ ⟨z0, v1, ⟨z0, v2, ⟨z0, v3, (wm_OkI.mono (p_copy _ _ _ h) (fun r1 μ1 h1 => ⟨z0, v1, ⟨z0, v2, ⟨z0, v3, wm_OkI.mono h1 (fun r2 μ2 h2 => ⟨fun _ => K μ2 h2.2, fun z => absurd h2.1 z⟩)⟩⟩⟩))⟩⟩⟩
theorem ql_1562 {L : Nat} {xs : Nat → Int32} {i n : Nat} (hi : i + 4 ≤ L) (hL : L ≤ 2048) (hn : n < 8000) {μ : wm_M} (h : Rel n μ) (K : ∀ μ2, Rel (n + 1) μ2 → wl_W L xs 1585 [.ref 3000, .ref 0, .ref 89, .int (nI i)] μ2) : wl_W L xs 1562 [.ref 3000, .ref 0, .ref 89, .int (nI i)] μ := by
  have z0 : ¬ L + 1 = 0 := Nat.succ_ne_zero L
  have v1 := vl1 hi hL
  have v2 := vl2 hi hL
  have v3 := vl3 hi hL
  exact fl_1562 (nI i) μ ⟨z0, v1, (wm_OkI.mono (p_status _ h) (fun r1 μ1 h1 => ⟨z0, v1, wm_OkI.mono h1 (fun r2 μ2 h2 => ⟨fun _ => K μ2 h2.2, fun z => absurd h2.1 z⟩)⟩))⟩
set_option maxRecDepth 100000 in
theorem law_loop {L : Nat} {xs : Nat → Int32} (hL : L ≤ 2048) : ∀ (k i n : Nat) (μ : wm_M), L + 1 ≤ i + k → i ≤ L + 4 → 4 * n ≤ i → Rel n μ → wl_W L xs 18 [.ref 3000, .ref 0, .ref 89, .int (nI i)] μ := by
  intro k
  induction k with
  | zero => 
    intro i n μ h1 h2 h3 h
    refine fl_18 (nI i) μ ⟨Nat.succ_ne_zero L, fun _ => fl_1591 μ rfl, fun q => absurd ?_ q⟩
    exact ll_end (by omega) (by omega) (by omega)
  | succ k ih =>
    intro i n μ h1 h2 h3 h
    refine fl_18 (nI i) μ ⟨Nat.succ_ne_zero L, fun _ => fl_1591 μ rfl, fun q => ?_⟩
    have hi : i + 4 ≤ L := by
      rcases Nat.lt_or_ge L (i + 4) with z | z
      · exact absurd (ll_end (by omega) (by omega) (by omega)) q
      · exact z
    have hn : n < 8000 := by omega
    have K : ∀ μ2, Rel (n + 1) μ2 → wl_W L xs 1585 [.ref 3000, .ref 0, .ref 89, .int (nI i)] μ2 := fun μ2 h9 => by
      refine fl_1585 (nI i) μ2 ?_
      rw [show nI i + (4 : Int32) = nI (i + 4) from nI_add i 4]
      exact ih (i + 4) (n + 1) μ2 (by omega) (by omega) (by omega) h9
    refine ⟨Nat.succ_ne_zero L, vp_in_nI (by omega) (by omega), ?_⟩
    refine ⟨fun _ => fl_1585 (nI i) μ ?_, fun _ => ql_228 hi hL hn h K, fun _ => ql_271 hi hL hn h K, fun _ => ql_314 hi hL hn h K, fun _ => ql_357 hi hL hn h K, fun _ => ql_380 hi hL hn h K, fun _ => ql_423 hi hL hn h K, fun _ => ql_466 hi hL hn h K, fun _ => ql_509 hi hL hn h K, fun _ => ql_532 hi hL hn h K, fun _ => ql_575 hi hL hn h K, fun _ => ql_608 hi hL hn h K, fun _ => ql_641 hi hL hn h K, fun _ => ql_654 hi hL hn h K, fun _ => ql_687 hi hL hn h K, fun _ => ql_720 hi hL hn h K, fun _ => ql_733 hi hL hn h K, fun _ => ql_766 hi hL hn h K, fun _ => ql_809 hi hL hn h K, fun _ => ql_852 hi hL hn h K, fun _ => ql_895 hi hL hn h K, fun _ => ql_938 hi hL hn h K, fun _ => ql_971 hi hL hn h K, fun _ => ql_1004 hi hL hn h K, fun _ => ql_1037 hi hL hn h K, fun _ => ql_1070 hi hL hn h K, fun _ => ql_1104 hi hL hn h K, fun _ => ql_1118 hi hL hn h K, fun _ => ql_1141 hi hL hn h K, fun _ => ql_1184 hi hL hn h K, fun _ => ql_1197 hi hL hn h K, fun _ => ql_1230 hi hL hn h K, fun _ => ql_1253 hi hL hn h K, fun _ => ql_1276 hi hL hn h K, fun _ => ql_1299 hi hL hn h K, fun _ => ql_1322 hi hL hn h K, fun _ => ql_1345 hi hL hn h K, fun _ => ql_1378 hi hL hn h K, fun _ => ql_1401 hi hL hn h K, fun _ => ql_1414 hi hL hn h K, fun _ => ql_1427 hi hL hn h K, fun _ => ql_1450 hi hL hn h K, fun _ => ql_1483 hi hL hn h K, fun _ => ql_1496 hi hL hn h K, fun _ => ql_1519 hi hL hn h K, fun _ => ql_1562 hi hL hn h K, trivial⟩
    rw [show nI i + (4 : Int32) = nI (i + 4) from nI_add i 4]
    exact ih (i + 4) n μ (by omega) (by omega) (by omega) h
