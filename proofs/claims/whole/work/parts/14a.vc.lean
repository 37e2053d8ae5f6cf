/-! ===== VC theorems ===== -/
theorem wm_ent {e y nL : Nat} (hy : Nat.blt y wm_N = true) (hm : Nat.beq (wm_oc y) 15 = false) (hn : wm_mx y = nL) {as l : List Value} (hl : Nat.ble (wm_al as).length nL = true) (hi : wm_in as nL = l) {μ : wm_M} {Q : Option Value → wm_M → Prop} (h : wm_Wp e y 0 l μ Q) : wm_Ok e y as μ Q := by
  subst hi
  subst hn
  exact wm_enter hy hm hl h
-- WindBoat$Boat.take(LWindBoat$Boat;)V
set_option maxRecDepth 100000 in
set_option maxHeartbeats 8000000 in
theorem f_1b (μ : wm_M) (Q : Option Value → wm_M → Prop) (h : (((μ.1 42 0) = 0 ∨ (μ.1 42 0) = 1) ∧ wm_Wp 0 1 8 [.ref 13, .ref 42] (wm_si μ 13 0 (μ.1 42 0)) Q)) : wm_Ok 0 1 [.ref 13, .ref 42] μ Q := wm_ent (nL := 2) (l := [.ref 13, .ref 42]) (by decide +kernel) (by decide +kernel) (by decide +kernel) rfl rfl (wm_vc mo_1 (rt := none) (by decide +kernel) mc_1 174 h)
-- WindBoat$Boat.take(LWindBoat$Boat;)V, the place 8
set_option maxRecDepth 100000 in
set_option maxHeartbeats 8000000 in
theorem f_1_8b (μ : wm_M) (Q : Option Value → wm_M → Prop) (h : wm_Wp 0 1 16 [.ref 13, .ref 42] (wm_si μ 13 1 (μ.1 42 1)) Q) : wm_Wp 0 1 8 [.ref 13, .ref 42] μ Q := wm_vc mo_1 (rt := none) (by decide +kernel) mc_1 174 h
-- WindBoat$Boat.take(LWindBoat$Boat;)V, the place 16
set_option maxRecDepth 100000 in
set_option maxHeartbeats 8000000 in
theorem f_1_16b (μ : wm_M) (Q : Option Value → wm_M → Prop) (h : wm_Wp 0 1 24 [.ref 13, .ref 42] (wm_si μ 13 2 (μ.1 42 2)) Q) : wm_Wp 0 1 16 [.ref 13, .ref 42] μ Q := wm_vc mo_1 (rt := none) (by decide +kernel) mc_1 174 h
-- WindBoat$Boat.take(LWindBoat$Boat;)V, the place 24
set_option maxRecDepth 100000 in
set_option maxHeartbeats 8000000 in
theorem f_1_24b (μ : wm_M) (Q : Option Value → wm_M → Prop) (h : wm_Wp 0 1 32 [.ref 13, .ref 42] (wm_si μ 13 3 (μ.1 42 3)) Q) : wm_Wp 0 1 24 [.ref 13, .ref 42] μ Q := wm_vc mo_1 (rt := none) (by decide +kernel) mc_1 174 h
-- WindBoat$Boat.take(LWindBoat$Boat;)V, the place 32
set_option maxRecDepth 100000 in
set_option maxHeartbeats 8000000 in
theorem f_1_32b (μ : wm_M) (Q : Option Value → wm_M → Prop) (h : wm_Wp 0 1 40 [.ref 13, .ref 42] (wm_si μ 13 4 (μ.1 42 4)) Q) : wm_Wp 0 1 32 [.ref 13, .ref 42] μ Q := wm_vc mo_1 (rt := none) (by decide +kernel) mc_1 174 h
-- WindBoat$Boat.take(LWindBoat$Boat;)V, the place 40
set_option maxRecDepth 100000 in
set_option maxHeartbeats 8000000 in
theorem f_1_40b (μ : wm_M) (Q : Option Value → wm_M → Prop) (h : wm_Wp 0 1 48 [.ref 13, .ref 42] (wm_si μ 13 5 (μ.1 42 5)) Q) : wm_Wp 0 1 40 [.ref 13, .ref 42] μ Q := wm_vc mo_1 (rt := none) (by decide +kernel) mc_1 174 h
-- WindBoat$Boat.take(LWindBoat$Boat;)V, the place 48
set_option maxRecDepth 100000 in
set_option maxHeartbeats 8000000 in
theorem f_1_48b (μ : wm_M) (Q : Option Value → wm_M → Prop) (h : wm_Wp 0 1 56 [.ref 13, .ref 42] (wm_si μ 13 6 (μ.1 42 6)) Q) : wm_Wp 0 1 48 [.ref 13, .ref 42] μ Q := wm_vc mo_1 (rt := none) (by decide +kernel) mc_1 174 h
-- WindBoat$Boat.take(LWindBoat$Boat;)V, the place 56
set_option maxRecDepth 100000 in
set_option maxHeartbeats 8000000 in
theorem f_1_56b (μ : wm_M) (Q : Option Value → wm_M → Prop) (h : wm_Wp 0 1 64 [.ref 13, .ref 42] (wm_si μ 13 7 (μ.1 42 7)) Q) : wm_Wp 0 1 56 [.ref 13, .ref 42] μ Q := wm_vc mo_1 (rt := none) (by decide +kernel) mc_1 174 h
-- WindBoat$Boat.take(LWindBoat$Boat;)V, the place 64
set_option maxRecDepth 100000 in
set_option maxHeartbeats 8000000 in
theorem f_1_64b (μ : wm_M) (Q : Option Value → wm_M → Prop) (h : (¬ (0 : Int32) < 0 ∧ ¬ (0 : Int32) < 0 ∧ ¬ (3 : Int32) < 0 ∧ ((0 : Int32)).toNatClampNeg + ((3 : Int32)).toNatClampNeg ≤ 3 ∧ ((0 : Int32)).toNatClampNeg + ((3 : Int32)).toNatClampNeg ≤ 3 ∧ ∀ μ1, μ1 = wm_sr μ 14 (va_cpy (μ.1 43) (μ.1 14) ((0 : Int32)).toNatClampNeg ((0 : Int32)).toNatClampNeg ((3 : Int32)).toNatClampNeg) → wm_Wp 0 1 78 [.ref 13, .ref 42] μ1 Q)) : wm_Wp 0 1 64 [.ref 13, .ref 42] μ Q := wm_vc mo_1 (rt := none) (by decide +kernel) mc_1 174 h
-- WindBoat$Boat.take(LWindBoat$Boat;)V, the place 78
set_option maxRecDepth 100000 in
set_option maxHeartbeats 8000000 in
theorem f_1_78b (μ : wm_M) (Q : Option Value → wm_M → Prop) (h : (¬ (0 : Int32) < 0 ∧ ¬ (0 : Int32) < 0 ∧ ¬ (3 : Int32) < 0 ∧ ((0 : Int32)).toNatClampNeg + ((3 : Int32)).toNatClampNeg ≤ 3 ∧ ((0 : Int32)).toNatClampNeg + ((3 : Int32)).toNatClampNeg ≤ 3 ∧ (∀ i, i < ((3 : Int32)).toNatClampNeg → μ.1 44 (((0 : Int32)).toNatClampNeg + i) = 0 ∨ μ.1 44 (((0 : Int32)).toNatClampNeg + i) = 1) ∧ ∀ μ1, μ1 = wm_sr μ 15 (va_cpy (μ.1 44) (μ.1 15) ((0 : Int32)).toNatClampNeg ((0 : Int32)).toNatClampNeg ((3 : Int32)).toNatClampNeg) → wm_Wp 0 1 92 [.ref 13, .ref 42] μ1 Q)) : wm_Wp 0 1 78 [.ref 13, .ref 42] μ Q := wm_vc mo_1 (rt := none) (by decide +kernel) mc_1 174 h
-- WindBoat$Boat.take(LWindBoat$Boat;)V, the place 92
set_option maxRecDepth 100000 in
set_option maxHeartbeats 8000000 in
theorem f_1_92b (μ : wm_M) (Q : Option Value → wm_M → Prop) (h : wm_Wp 0 1 100 [.ref 13, .ref 42] (wm_si μ 13 10 (μ.1 42 10)) Q) : wm_Wp 0 1 92 [.ref 13, .ref 42] μ Q := wm_vc mo_1 (rt := none) (by decide +kernel) mc_1 174 h
-- WindBoat$Boat.take(LWindBoat$Boat;)V, the place 100
set_option maxRecDepth 100000 in
set_option maxHeartbeats 8000000 in
theorem f_1_100b (μ : wm_M) (Q : Option Value → wm_M → Prop) (h : (¬ (0 : Int32) < 0 ∧ ¬ (0 : Int32) < 0 ∧ ¬ (8 : Int32) < 0 ∧ ((0 : Int32)).toNatClampNeg + ((8 : Int32)).toNatClampNeg ≤ 8 ∧ ((0 : Int32)).toNatClampNeg + ((8 : Int32)).toNatClampNeg ≤ 8 ∧ ∀ μ1, μ1 = wm_sr μ 16 (va_cpy (μ.1 45) (μ.1 16) ((0 : Int32)).toNatClampNeg ((0 : Int32)).toNatClampNeg ((8 : Int32)).toNatClampNeg) → wm_Wp 0 1 115 [.ref 13, .ref 42] μ1 Q)) : wm_Wp 0 1 100 [.ref 13, .ref 42] μ Q := wm_vc mo_1 (rt := none) (by decide +kernel) mc_1 174 h
-- WindBoat$Boat.take(LWindBoat$Boat;)V, the place 115
set_option maxRecDepth 100000 in
set_option maxHeartbeats 8000000 in
theorem f_1_115b (μ : wm_M) (Q : Option Value → wm_M → Prop) (h : (¬ (0 : Int32) < 0 ∧ ¬ (0 : Int32) < 0 ∧ ¬ (8 : Int32) < 0 ∧ ((0 : Int32)).toNatClampNeg + ((8 : Int32)).toNatClampNeg ≤ 8 ∧ ((0 : Int32)).toNatClampNeg + ((8 : Int32)).toNatClampNeg ≤ 8 ∧ (∀ i, i < ((8 : Int32)).toNatClampNeg → μ.1 46 (((0 : Int32)).toNatClampNeg + i) = 0 ∨ μ.1 46 (((0 : Int32)).toNatClampNeg + i) = 1) ∧ ∀ μ1, μ1 = wm_sr μ 17 (va_cpy (μ.1 46) (μ.1 17) ((0 : Int32)).toNatClampNeg ((0 : Int32)).toNatClampNeg ((8 : Int32)).toNatClampNeg) → wm_Wp 0 1 130 [.ref 13, .ref 42] μ1 Q)) : wm_Wp 0 1 115 [.ref 13, .ref 42] μ Q := wm_vc mo_1 (rt := none) (by decide +kernel) mc_1 174 h
-- WindBoat$Boat.take(LWindBoat$Boat;)V, the place 130
set_option maxRecDepth 100000 in
set_option maxHeartbeats 8000000 in
theorem f_1_130b (μ : wm_M) (Q : Option Value → wm_M → Prop) (h : wm_Wp 0 1 138 [.ref 13, .ref 42] (wm_si μ 13 13 (μ.1 42 13)) Q) : wm_Wp 0 1 130 [.ref 13, .ref 42] μ Q := wm_vc mo_1 (rt := none) (by decide +kernel) mc_1 174 h
-- WindBoat$Boat.take(LWindBoat$Boat;)V, the place 138
set_option maxRecDepth 100000 in
set_option maxHeartbeats 8000000 in
theorem f_1_138b (μ : wm_M) (Q : Option Value → wm_M → Prop) (h : wm_Wp 0 1 146 [.null, .null] (wm_si μ 13 14 (μ.1 42 14)) Q) : wm_Wp 0 1 138 [.ref 13, .ref 42] μ Q := wm_vc mo_1 (rt := none) (by decide +kernel) mc_1 174 h
-- WindBoat$Boat.take(LWindBoat$Boat;)V, the place 146
set_option maxRecDepth 100000 in
set_option maxHeartbeats 8000000 in
theorem f_1_146b (μ : wm_M) (Q : Option Value → wm_M → Prop) (h : Q none μ) : wm_Wp 0 1 146 [.null, .null] μ Q := wm_vc mo_1 (rt := none) (by decide +kernel) mc_1 174 h
-- WindBoat$Boat.take(LWindBoat$Boat;)V
set_option maxRecDepth 100000 in
set_option maxHeartbeats 8000000 in
theorem f_1i (μ : wm_M) (Q : Option Value → wm_M → Prop) (h : (((μ.1 13 0) = 0 ∨ (μ.1 13 0) = 1) ∧ wm_Wp 0 1 8 [.ref 42, .ref 13] (wm_si μ 42 0 (μ.1 13 0)) Q)) : wm_Ok 0 1 [.ref 42, .ref 13] μ Q := wm_ent (nL := 2) (l := [.ref 42, .ref 13]) (by decide +kernel) (by decide +kernel) (by decide +kernel) rfl rfl (wm_vc mo_1 (rt := none) (by decide +kernel) mc_1 174 h)
-- WindBoat$Boat.take(LWindBoat$Boat;)V, the place 8
set_option maxRecDepth 100000 in
set_option maxHeartbeats 8000000 in
theorem f_1_8i (μ : wm_M) (Q : Option Value → wm_M → Prop) (h : wm_Wp 0 1 16 [.ref 42, .ref 13] (wm_si μ 42 1 (μ.1 13 1)) Q) : wm_Wp 0 1 8 [.ref 42, .ref 13] μ Q := wm_vc mo_1 (rt := none) (by decide +kernel) mc_1 174 h
-- WindBoat$Boat.take(LWindBoat$Boat;)V, the place 16
set_option maxRecDepth 100000 in
set_option maxHeartbeats 8000000 in
theorem f_1_16i (μ : wm_M) (Q : Option Value → wm_M → Prop) (h : wm_Wp 0 1 24 [.ref 42, .ref 13] (wm_si μ 42 2 (μ.1 13 2)) Q) : wm_Wp 0 1 16 [.ref 42, .ref 13] μ Q := wm_vc mo_1 (rt := none) (by decide +kernel) mc_1 174 h
-- WindBoat$Boat.take(LWindBoat$Boat;)V, the place 24
set_option maxRecDepth 100000 in
set_option maxHeartbeats 8000000 in
theorem f_1_24i (μ : wm_M) (Q : Option Value → wm_M → Prop) (h : wm_Wp 0 1 32 [.ref 42, .ref 13] (wm_si μ 42 3 (μ.1 13 3)) Q) : wm_Wp 0 1 24 [.ref 42, .ref 13] μ Q := wm_vc mo_1 (rt := none) (by decide +kernel) mc_1 174 h
-- WindBoat$Boat.take(LWindBoat$Boat;)V, the place 32
set_option maxRecDepth 100000 in
set_option maxHeartbeats 8000000 in
theorem f_1_32i (μ : wm_M) (Q : Option Value → wm_M → Prop) (h : wm_Wp 0 1 40 [.ref 42, .ref 13] (wm_si μ 42 4 (μ.1 13 4)) Q) : wm_Wp 0 1 32 [.ref 42, .ref 13] μ Q := wm_vc mo_1 (rt := none) (by decide +kernel) mc_1 174 h
-- WindBoat$Boat.take(LWindBoat$Boat;)V, the place 40
set_option maxRecDepth 100000 in
set_option maxHeartbeats 8000000 in
theorem f_1_40i (μ : wm_M) (Q : Option Value → wm_M → Prop) (h : wm_Wp 0 1 48 [.ref 42, .ref 13] (wm_si μ 42 5 (μ.1 13 5)) Q) : wm_Wp 0 1 40 [.ref 42, .ref 13] μ Q := wm_vc mo_1 (rt := none) (by decide +kernel) mc_1 174 h
-- WindBoat$Boat.take(LWindBoat$Boat;)V, the place 48
set_option maxRecDepth 100000 in
set_option maxHeartbeats 8000000 in
theorem f_1_48i (μ : wm_M) (Q : Option Value → wm_M → Prop) (h : wm_Wp 0 1 56 [.ref 42, .ref 13] (wm_si μ 42 6 (μ.1 13 6)) Q) : wm_Wp 0 1 48 [.ref 42, .ref 13] μ Q := wm_vc mo_1 (rt := none) (by decide +kernel) mc_1 174 h
-- WindBoat$Boat.take(LWindBoat$Boat;)V, the place 56
set_option maxRecDepth 100000 in
set_option maxHeartbeats 8000000 in
theorem f_1_56i (μ : wm_M) (Q : Option Value → wm_M → Prop) (h : wm_Wp 0 1 64 [.ref 42, .ref 13] (wm_si μ 42 7 (μ.1 13 7)) Q) : wm_Wp 0 1 56 [.ref 42, .ref 13] μ Q := wm_vc mo_1 (rt := none) (by decide +kernel) mc_1 174 h
-- WindBoat$Boat.take(LWindBoat$Boat;)V, the place 64
set_option maxRecDepth 100000 in
set_option maxHeartbeats 8000000 in
theorem f_1_64i (μ : wm_M) (Q : Option Value → wm_M → Prop) (h : (¬ (0 : Int32) < 0 ∧ ¬ (0 : Int32) < 0 ∧ ¬ (3 : Int32) < 0 ∧ ((0 : Int32)).toNatClampNeg + ((3 : Int32)).toNatClampNeg ≤ 3 ∧ ((0 : Int32)).toNatClampNeg + ((3 : Int32)).toNatClampNeg ≤ 3 ∧ ∀ μ1, μ1 = wm_sr μ 43 (va_cpy (μ.1 14) (μ.1 43) ((0 : Int32)).toNatClampNeg ((0 : Int32)).toNatClampNeg ((3 : Int32)).toNatClampNeg) → wm_Wp 0 1 78 [.ref 42, .ref 13] μ1 Q)) : wm_Wp 0 1 64 [.ref 42, .ref 13] μ Q := wm_vc mo_1 (rt := none) (by decide +kernel) mc_1 174 h
-- WindBoat$Boat.take(LWindBoat$Boat;)V, the place 78
set_option maxRecDepth 100000 in
set_option maxHeartbeats 8000000 in
theorem f_1_78i (μ : wm_M) (Q : Option Value → wm_M → Prop) (h : (¬ (0 : Int32) < 0 ∧ ¬ (0 : Int32) < 0 ∧ ¬ (3 : Int32) < 0 ∧ ((0 : Int32)).toNatClampNeg + ((3 : Int32)).toNatClampNeg ≤ 3 ∧ ((0 : Int32)).toNatClampNeg + ((3 : Int32)).toNatClampNeg ≤ 3 ∧ (∀ i, i < ((3 : Int32)).toNatClampNeg → μ.1 15 (((0 : Int32)).toNatClampNeg + i) = 0 ∨ μ.1 15 (((0 : Int32)).toNatClampNeg + i) = 1) ∧ ∀ μ1, μ1 = wm_sr μ 44 (va_cpy (μ.1 15) (μ.1 44) ((0 : Int32)).toNatClampNeg ((0 : Int32)).toNatClampNeg ((3 : Int32)).toNatClampNeg) → wm_Wp 0 1 92 [.ref 42, .ref 13] μ1 Q)) : wm_Wp 0 1 78 [.ref 42, .ref 13] μ Q := wm_vc mo_1 (rt := none) (by decide +kernel) mc_1 174 h
-- WindBoat$Boat.take(LWindBoat$Boat;)V, the place 92
set_option maxRecDepth 100000 in
set_option maxHeartbeats 8000000 in
theorem f_1_92i (μ : wm_M) (Q : Option Value → wm_M → Prop) (h : wm_Wp 0 1 100 [.ref 42, .ref 13] (wm_si μ 42 10 (μ.1 13 10)) Q) : wm_Wp 0 1 92 [.ref 42, .ref 13] μ Q := wm_vc mo_1 (rt := none) (by decide +kernel) mc_1 174 h
-- WindBoat$Boat.take(LWindBoat$Boat;)V, the place 100
set_option maxRecDepth 100000 in
set_option maxHeartbeats 8000000 in
theorem f_1_100i (μ : wm_M) (Q : Option Value → wm_M → Prop) (h : (¬ (0 : Int32) < 0 ∧ ¬ (0 : Int32) < 0 ∧ ¬ (8 : Int32) < 0 ∧ ((0 : Int32)).toNatClampNeg + ((8 : Int32)).toNatClampNeg ≤ 8 ∧ ((0 : Int32)).toNatClampNeg + ((8 : Int32)).toNatClampNeg ≤ 8 ∧ ∀ μ1, μ1 = wm_sr μ 45 (va_cpy (μ.1 16) (μ.1 45) ((0 : Int32)).toNatClampNeg ((0 : Int32)).toNatClampNeg ((8 : Int32)).toNatClampNeg) → wm_Wp 0 1 115 [.ref 42, .ref 13] μ1 Q)) : wm_Wp 0 1 100 [.ref 42, .ref 13] μ Q := wm_vc mo_1 (rt := none) (by decide +kernel) mc_1 174 h
-- WindBoat$Boat.take(LWindBoat$Boat;)V, the place 115
set_option maxRecDepth 100000 in
set_option maxHeartbeats 8000000 in
theorem f_1_115i (μ : wm_M) (Q : Option Value → wm_M → Prop) (h : (¬ (0 : Int32) < 0 ∧ ¬ (0 : Int32) < 0 ∧ ¬ (8 : Int32) < 0 ∧ ((0 : Int32)).toNatClampNeg + ((8 : Int32)).toNatClampNeg ≤ 8 ∧ ((0 : Int32)).toNatClampNeg + ((8 : Int32)).toNatClampNeg ≤ 8 ∧ (∀ i, i < ((8 : Int32)).toNatClampNeg → μ.1 17 (((0 : Int32)).toNatClampNeg + i) = 0 ∨ μ.1 17 (((0 : Int32)).toNatClampNeg + i) = 1) ∧ ∀ μ1, μ1 = wm_sr μ 46 (va_cpy (μ.1 17) (μ.1 46) ((0 : Int32)).toNatClampNeg ((0 : Int32)).toNatClampNeg ((8 : Int32)).toNatClampNeg) → wm_Wp 0 1 130 [.ref 42, .ref 13] μ1 Q)) : wm_Wp 0 1 115 [.ref 42, .ref 13] μ Q := wm_vc mo_1 (rt := none) (by decide +kernel) mc_1 174 h
-- WindBoat$Boat.take(LWindBoat$Boat;)V, the place 130
set_option maxRecDepth 100000 in
set_option maxHeartbeats 8000000 in
theorem f_1_130i (μ : wm_M) (Q : Option Value → wm_M → Prop) (h : wm_Wp 0 1 138 [.ref 42, .ref 13] (wm_si μ 42 13 (μ.1 13 13)) Q) : wm_Wp 0 1 130 [.ref 42, .ref 13] μ Q := wm_vc mo_1 (rt := none) (by decide +kernel) mc_1 174 h
-- WindBoat$Boat.take(LWindBoat$Boat;)V, the place 138
set_option maxRecDepth 100000 in
set_option maxHeartbeats 8000000 in
theorem f_1_138i (μ : wm_M) (Q : Option Value → wm_M → Prop) (h : wm_Wp 0 1 146 [.null, .null] (wm_si μ 42 14 (μ.1 13 14)) Q) : wm_Wp 0 1 138 [.ref 42, .ref 13] μ Q := wm_vc mo_1 (rt := none) (by decide +kernel) mc_1 174 h
-- WindBoat$Boat.take(LWindBoat$Boat;)V, the place 146
set_option maxRecDepth 100000 in
set_option maxHeartbeats 8000000 in
theorem f_1_146i (μ : wm_M) (Q : Option Value → wm_M → Prop) (h : Q none μ) : wm_Wp 0 1 146 [.null, .null] μ Q := wm_vc mo_1 (rt := none) (by decide +kernel) mc_1 174 h
-- WindBoat$Boat.state()I
set_option maxRecDepth 100000 in
set_option maxHeartbeats 8000000 in
theorem f_2 (μ : wm_M) (Q : Option Value → wm_M → Prop) (h : wm_OkI 0 183 [.int (μ.1 13 1), .int (μ.1 13 2), .int (μ.1 13 3)] μ (fun r2 μ1 => Q (some (.int r2)) μ1)) : wm_Ok 0 2 [.ref 13] μ Q := wm_ent (nL := 1) (l := [.ref 13]) (by decide +kernel) (by decide +kernel) (by decide +kernel) rfl rfl (wm_vc mo_2 (rt := some .int) (by decide +kernel) mc_2 36 h)
-- WindBoat$Boat.put(IIII)I
set_option maxRecDepth 100000 in
set_option maxHeartbeats 8000000 in
theorem f_3 (a1 : Int32) (a2 : Int32) (a3 : Int32) (a4 : Int32) (μ : wm_M) (Q : Option Value → wm_M → Prop) (h : (((1 : Int32) = 0 ∨ (1 : Int32) = 1) ∧ wm_Wp 0 3 5 [.ref 13, .int a1, .int a2, .int a3, .int a4] (wm_si μ 13 0 (1 : Int32)) Q)) : wm_Ok 0 3 [.ref 13, .int a1, .int a2, .int a3, .int a4] μ Q := wm_ent (nL := 5) (l := [.ref 13, .int a1, .int a2, .int a3, .int a4]) (by decide +kernel) (by decide +kernel) (by decide +kernel) rfl rfl (wm_vc mo_3 (rt := some .int) (by decide +kernel) mc_3 70 h)
-- WindBoat$Boat.put(IIII)I, the place 5
set_option maxRecDepth 100000 in
set_option maxHeartbeats 8000000 in
theorem f_3_5 (x1 : Int32) (x2 : Int32) (x3 : Int32) (x4 : Int32) (μ : wm_M) (Q : Option Value → wm_M → Prop) (h : wm_Wp 0 3 10 [.ref 13, .null, .int x2, .int x3, .int x4] (wm_si μ 13 1 x1) Q) : wm_Wp 0 3 5 [.ref 13, .int x1, .int x2, .int x3, .int x4] μ Q := wm_vc mo_3 (rt := some .int) (by decide +kernel) mc_3 70 h
-- WindBoat$Boat.put(IIII)I, the place 10
set_option maxRecDepth 100000 in
set_option maxHeartbeats 8000000 in
theorem f_3_10 (x2 : Int32) (x3 : Int32) (x4 : Int32) (μ : wm_M) (Q : Option Value → wm_M → Prop) (h : wm_Wp 0 3 15 [.ref 13, .null, .null, .int x3, .int x4] (wm_si μ 13 2 x2) Q) : wm_Wp 0 3 10 [.ref 13, .null, .int x2, .int x3, .int x4] μ Q := wm_vc mo_3 (rt := some .int) (by decide +kernel) mc_3 70 h
-- WindBoat$Boat.put(IIII)I, the place 15
set_option maxRecDepth 100000 in
set_option maxHeartbeats 8000000 in
theorem f_3_15 (x3 : Int32) (x4 : Int32) (μ : wm_M) (Q : Option Value → wm_M → Prop) (h : wm_Wp 0 3 20 [.ref 13, .null, .null, .null, .int x4] (wm_si μ 13 3 x3) Q) : wm_Wp 0 3 15 [.ref 13, .null, .null, .int x3, .int x4] μ Q := wm_vc mo_3 (rt := some .int) (by decide +kernel) mc_3 70 h
-- WindBoat$Boat.put(IIII)I, the place 20
set_option maxRecDepth 100000 in
set_option maxHeartbeats 8000000 in
theorem f_3_20 (x4 : Int32) (μ : wm_M) (Q : Option Value → wm_M → Prop) (h : wm_Wp 0 3 26 [.ref 13, .null, .null, .null, .int x4] (wm_si μ 13 4 x4) Q) : wm_Wp 0 3 20 [.ref 13, .null, .null, .null, .int x4] μ Q := wm_vc mo_3 (rt := some .int) (by decide +kernel) mc_3 70 h
-- WindBoat$Boat.put(IIII)I, the place 26
set_option maxRecDepth 100000 in
set_option maxHeartbeats 8000000 in
theorem f_3_26 (x4 : Int32) (μ : wm_M) (Q : Option Value → wm_M → Prop) (h : wm_OkI 0 2 [.ref 13] μ (fun r2 μ1 => wm_Wp 0 3 34 [.ref 13, .null, .null, .null, .int x4] (wm_si μ1 13 6 r2) Q)) : wm_Wp 0 3 26 [.ref 13, .null, .null, .null, .int x4] μ Q := wm_vc mo_3 (rt := some .int) (by decide +kernel) mc_3 70 h
-- WindBoat$Boat.put(IIII)I, the place 34
set_option maxRecDepth 100000 in
set_option maxHeartbeats 8000000 in
theorem f_3_34 (x4 : Int32) (μ : wm_M) (Q : Option Value → wm_M → Prop) (h : wm_Wp 0 3 40 [.ref 13, .null, .null, .null, .null] (wm_si μ 13 7 x4) Q) : wm_Wp 0 3 34 [.ref 13, .null, .null, .null, .int x4] μ Q := wm_vc mo_3 (rt := some .int) (by decide +kernel) mc_3 70 h
-- WindBoat$Boat.put(IIII)I, the place 40
set_option maxRecDepth 100000 in
set_option maxHeartbeats 8000000 in
theorem f_3_40 (μ : wm_M) (Q : Option Value → wm_M → Prop) (h : Q (some (.int (μ.1 13 6))) μ) : wm_Wp 0 3 40 [.ref 13, .null, .null, .null, .null] μ Q := wm_vc mo_3 (rt := some .int) (by decide +kernel) mc_3 70 h
-- WindBoat$Boat.move(I)V
set_option maxRecDepth 100000 in
set_option maxHeartbeats 8000000 in
theorem f_4 (a1 : Int32) (μ : wm_M) (Q : Option Value → wm_M → Prop) (h : wm_OkI 0 182 [.int (μ.1 13 1), .int a1] μ (fun r2 μ1 => wm_Wp 0 4 9 [.ref 13, .int a1, .int r2] μ1 Q)) : wm_Ok 0 4 [.ref 13, .int a1] μ Q := wm_ent (nL := 3) (l := [.ref 13, .int a1, .null]) (by decide +kernel) (by decide +kernel) (by decide +kernel) rfl rfl (wm_vc mo_4 (rt := none) (by decide +kernel) mc_4 68 h)
-- WindBoat$Boat.move(I)V, the place 9
set_option maxRecDepth 100000 in
set_option maxHeartbeats 8000000 in
theorem f_4_9 (x1 : Int32) (x2 : Int32) (μ : wm_M) (Q : Option Value → wm_M → Prop) (h : wm_Wp 0 4 14 [.ref 13, .null, .int x2] (wm_si μ 13 2 x1) Q) : wm_Wp 0 4 9 [.ref 13, .int x1, .int x2] μ Q := wm_vc mo_4 (rt := none) (by decide +kernel) mc_4 68 h
-- WindBoat$Boat.move(I)V, the place 14
set_option maxRecDepth 100000 in
set_option maxHeartbeats 8000000 in
theorem f_4_14 (x2 : Int32) (μ : wm_M) (Q : Option Value → wm_M → Prop) (h : ((x2 = (-1 : Int32) → wm_Wp 0 4 31 [.ref 13, .null, .null] (wm_si μ 13 1 (μ.1 13 1)) Q) ∧ (¬ x2 = (-1 : Int32) → wm_Wp 0 4 31 [.ref 13, .null, .null] (wm_si μ 13 1 x2) Q))) : wm_Wp 0 4 14 [.ref 13, .null, .int x2] μ Q := wm_vc mo_4 (rt := none) (by decide +kernel) mc_4 68 h
-- WindBoat$Boat.move(I)V, the place 31
set_option maxRecDepth 100000 in
set_option maxHeartbeats 8000000 in
theorem f_4_31 (μ : wm_M) (Q : Option Value → wm_M → Prop) (h : wm_Wp 0 4 41 [.null, .null, .null] (wm_si μ 13 5 ((μ.1 13 5) + (1 : Int32))) Q) : wm_Wp 0 4 31 [.ref 13, .null, .null] μ Q := wm_vc mo_4 (rt := none) (by decide +kernel) mc_4 68 h
-- WindBoat$Boat.move(I)V, the place 41
set_option maxRecDepth 100000 in
set_option maxHeartbeats 8000000 in
theorem f_4_41 (μ : wm_M) (Q : Option Value → wm_M → Prop) (h : Q none μ) : wm_Wp 0 4 41 [.null, .null, .null] μ Q := wm_vc mo_4 (rt := none) (by decide +kernel) mc_4 68 h
-- WindBoat$Boat.addSail(I)I
set_option maxRecDepth 100000 in
set_option maxHeartbeats 8000000 in
theorem f_5 (a1 : Int32) (μ : wm_M) (Q : Option Value → wm_M → Prop) (h : (vp_in (μ.1 13 10) 3 ∧ wm_Wp 0 5 10 [.ref 13, .null] (wm_si μ 14 ((μ.1 13 10)).toNatClampNeg a1) Q)) : wm_Ok 0 5 [.ref 13, .int a1] μ Q := wm_ent (nL := 2) (l := [.ref 13, .int a1]) (by decide +kernel) (by decide +kernel) (by decide +kernel) rfl rfl (wm_vc mo_5 (rt := some .int) (by decide +kernel) mc_5 66 h)
-- WindBoat$Boat.addSail(I)I, the place 10
set_option maxRecDepth 100000 in
set_option maxHeartbeats 8000000 in
theorem f_5_10 (μ : wm_M) (Q : Option Value → wm_M → Prop) (h : (vp_in (μ.1 13 10) 3 ∧ wm_Wp 0 5 20 [.ref 13, .null] (wm_si μ 15 ((μ.1 13 10)).toNatClampNeg (vp_nar .boolean (0 : Int32))) Q)) : wm_Wp 0 5 10 [.ref 13, .null] μ Q := wm_vc mo_5 (rt := some .int) (by decide +kernel) mc_5 66 h
-- WindBoat$Boat.addSail(I)I, the place 20
set_option maxRecDepth 100000 in
set_option maxHeartbeats 8000000 in
theorem f_5_20 (μ : wm_M) (Q : Option Value → wm_M → Prop) (h : wm_Wp 0 5 30 [.ref 13, .null] (wm_si μ 13 10 ((μ.1 13 10) + (1 : Int32))) Q) : wm_Wp 0 5 20 [.ref 13, .null] μ Q := wm_vc mo_5 (rt := some .int) (by decide +kernel) mc_5 66 h
-- WindBoat$Boat.addSail(I)I, the place 30
set_option maxRecDepth 100000 in
set_option maxHeartbeats 8000000 in
theorem f_5_30 (μ : wm_M) (Q : Option Value → wm_M → Prop) (h : Q (some (.int ((μ.1 13 10) - (1 : Int32)))) μ) : wm_Wp 0 5 30 [.ref 13, .null] μ Q := wm_vc mo_5 (rt := some .int) (by decide +kernel) mc_5 66 h
-- WindBoat$Boat.holds(I)I
set_option maxRecDepth 100000 in
set_option maxHeartbeats 8000000 in
theorem f_6 (a1 : Int32) (μ : wm_M) (Q : Option Value → wm_M → Prop) (h : (vp_in a1 3 ∧ (vp_in (μ.1 14 (a1).toNatClampNeg) 5 ∧ Q (some (.int (([24, 28, 39, 20, 16] : List Int32).getD ((μ.1 14 (a1).toNatClampNeg)).toNatClampNeg 0))) μ))) : wm_Ok 0 6 [.ref 13, .int a1] μ Q := wm_ent (nL := 2) (l := [.ref 13, .int a1]) (by decide +kernel) (by decide +kernel) (by decide +kernel) rfl rfl (wm_vc mo_6 (rt := some .int) (by decide +kernel) mc_6 34 h)
-- WindBoat$Boat.tornOnes()I
set_option maxRecDepth 100000 in
set_option maxHeartbeats 8000000 in
theorem f_7 (μ : wm_M) (Q : Option Value → wm_M → Prop) (h : wm_Wp 0 7 4 [.ref 13, .int (0 : Int32), .int (0 : Int32)] μ Q) : wm_Ok 0 7 [.ref 13] μ Q := wm_ent (nL := 3) (l := [.ref 13, .null, .null]) (by decide +kernel) (by decide +kernel) (by decide +kernel) rfl rfl (wm_vc mo_7 (rt := some .int) (by decide +kernel) mc_7 60 h)
-- WindBoat$Boat.tornOnes()I, the place 4
set_option maxRecDepth 100000 in
set_option maxHeartbeats 8000000 in
theorem f_7_4 (x1 : Int32) (x2 : Int32) (μ : wm_M) (Q : Option Value → wm_M → Prop) (h : (((μ.1 13 10) ≤ x2 → wm_Wp 0 7 30 [.null, .int x1, .null] μ Q) ∧ (¬ (μ.1 13 10) ≤ x2 → (vp_in x2 3 ∧ wm_OkI 0 177 [.int (μ.1 15 (x2).toNatClampNeg)] μ (fun r2 μ1 => wm_Wp 0 7 24 [.ref 13, .int (x1 + r2), .int x2] μ1 Q))))) : wm_Wp 0 7 4 [.ref 13, .int x1, .int x2] μ Q := wm_vc mo_7 (rt := some .int) (by decide +kernel) mc_7 60 h
-- WindBoat$Boat.tornOnes()I, the place 24
set_option maxRecDepth 100000 in
set_option maxHeartbeats 8000000 in
theorem f_7_24 (x1 : Int32) (x2 : Int32) (μ : wm_M) (Q : Option Value → wm_M → Prop) (h : wm_Wp 0 7 4 [.ref 13, .int x1, .int (x2 + (1 : Int32))] μ Q) : wm_Wp 0 7 24 [.ref 13, .int x1, .int x2] μ Q := wm_vc mo_7 (rt := some .int) (by decide +kernel) mc_7 60 h
-- WindBoat$Boat.tornOnes()I, the place 30
set_option maxRecDepth 100000 in
set_option maxHeartbeats 8000000 in
theorem f_7_30 (x1 : Int32) (μ : wm_M) (Q : Option Value → wm_M → Prop) (h : Q (some (.int x1)) μ) : wm_Wp 0 7 30 [.null, .int x1, .null] μ Q := wm_vc mo_7 (rt := some .int) (by decide +kernel) mc_7 60 h
-- WindBoat$Boat.isUnder(II)Z
set_option maxRecDepth 100000 in
set_option maxHeartbeats 8000000 in
theorem f_8 (a0 : Int32) (a1 : Int32) (μ : wm_M) (Q : Option Value → wm_M → Prop) (h : wm_Wp 0 8 4 [.null, .int a1, .int a0, .int (0 : Int32)] μ Q) : wm_Ok 0 8 [.int a0, .int a1] μ Q := wm_ent (nL := 4) (l := [.int a0, .int a1, .null, .null]) (by decide +kernel) (by decide +kernel) (by decide +kernel) rfl rfl (wm_vc mo_8 (rt := some .boolean) (by decide +kernel) mc_8 66 h)
-- WindBoat$Boat.isUnder(II)Z, the place 4
set_option maxRecDepth 100000 in
set_option maxHeartbeats 8000000 in
theorem f_8_4 (x1 : Int32) (x2 : Int32) (x3 : Int32) (μ : wm_M) (Q : Option Value → wm_M → Prop) (h : (((5 : Int32) ≤ x3 → wm_Wp 0 8 33 [.null, .null, .null, .null] μ Q) ∧ (¬ (5 : Int32) ≤ x3 → ((x2 = (-1 : Int32) → wm_Wp 0 8 33 [.null, .null, .null, .null] μ Q) ∧ (¬ x2 = (-1 : Int32) → ((x2 = x1 → (((1 : Int32) = 0 ∨ (1 : Int32) = 1) ∧ Q (some (.int (1 : Int32))) μ)) ∧ (¬ x2 = x1 → wm_Wp 0 8 21 [.null, .int x1, .int x2, .int x3] μ Q))))))) : wm_Wp 0 8 4 [.null, .int x1, .int x2, .int x3] μ Q := wm_vc mo_8 (rt := some .boolean) (by decide +kernel) mc_8 66 h
-- WindBoat$Boat.isUnder(II)Z, the place 21
set_option maxRecDepth 100000 in
set_option maxHeartbeats 8000000 in
theorem f_8_21 (x1 : Int32) (x2 : Int32) (x3 : Int32) (μ : wm_M) (Q : Option Value → wm_M → Prop) (h : (vp_in x2 5 ∧ wm_Wp 0 8 4 [.null, .int x1, .int (([-1, 0, 1, 0, 3] : List Int32).getD (x2).toNatClampNeg 0), .int (x3 + (1 : Int32))] μ Q)) : wm_Wp 0 8 21 [.null, .int x1, .int x2, .int x3] μ Q := wm_vc mo_8 (rt := some .boolean) (by decide +kernel) mc_8 66 h
-- WindBoat$Boat.isUnder(II)Z, the place 33
set_option maxRecDepth 100000 in
set_option maxHeartbeats 8000000 in
theorem f_8_33 (μ : wm_M) (Q : Option Value → wm_M → Prop) (h : (((0 : Int32) = 0 ∨ (0 : Int32) = 1) ∧ Q (some (.int (0 : Int32))) μ)) : wm_Wp 0 8 33 [.null, .null, .null, .null] μ Q := wm_vc mo_8 (rt := some .boolean) (by decide +kernel) mc_8 66 h
-- WindBoat$Boat.paceOf(III)I
set_option maxRecDepth 100000 in
set_option maxHeartbeats 8000000 in
theorem f_9 (a0 : Int32) (a1 : Int32) (a2 : Int32) (μ : wm_M) (Q : Option Value → wm_M → Prop) (h : (((3 : Int32) ≤ a1 → (¬ (10 : Int32) = 0 ∧ ((a1 ≤ (2 : Int32) → wm_Wp 0 9 33 [.int a0, .null, .int a2, .int ((a2 * (9 : Int32)) / (10 : Int32)), .null] μ Q) ∧ (¬ a1 ≤ (2 : Int32) → (¬ (10 : Int32) = 0 ∧ (((a0).toInt < 1 ∨ 4 < (a0).toInt → wm_Wp 0 9 86 [.null, .null, .int a2, .null, .null] μ Q) ∧ (((a0).toInt = 1 → wm_Wp 0 9 68 [.null, .null, .null, .int ((a2 * (9 : Int32)) / (10 : Int32)), .null] μ Q) ∧ (((a0).toInt = 2 → wm_Wp 0 9 70 [.null, .null, .null, .int ((a2 * (9 : Int32)) / (10 : Int32)), .null] μ Q) ∧ (((a0).toInt = 3 → wm_Wp 0 9 74 [.null, .null, .null, .null, .int ((a2 * (12 : Int32)) / (10 : Int32))] μ Q) ∧ (((a0).toInt = 4 → wm_Wp 0 9 77 [.null, .null, .null, .null, .int ((a2 * (12 : Int32)) / (10 : Int32))] μ Q) ∧ True)))))))))) ∧ (¬ (3 : Int32) ≤ a1 → (¬ (10 : Int32) = 0 ∧ ((a1 ≤ (2 : Int32) → wm_Wp 0 9 33 [.int a0, .null, .int a2, .int ((a2 * (11 : Int32)) / (10 : Int32)), .null] μ Q) ∧ (¬ a1 ≤ (2 : Int32) → (¬ (10 : Int32) = 0 ∧ (((a0).toInt < 1 ∨ 4 < (a0).toInt → wm_Wp 0 9 86 [.null, .null, .int a2, .null, .null] μ Q) ∧ (((a0).toInt = 1 → wm_Wp 0 9 68 [.null, .null, .null, .int ((a2 * (11 : Int32)) / (10 : Int32)), .null] μ Q) ∧ (((a0).toInt = 2 → wm_Wp 0 9 70 [.null, .null, .null, .int ((a2 * (11 : Int32)) / (10 : Int32)), .null] μ Q) ∧ (((a0).toInt = 3 → wm_Wp 0 9 74 [.null, .null, .null, .null, .int ((a2 * (12 : Int32)) / (10 : Int32))] μ Q) ∧ (((a0).toInt = 4 → wm_Wp 0 9 77 [.null, .null, .null, .null, .int ((a2 * (12 : Int32)) / (10 : Int32))] μ Q) ∧ True)))))))))))) : wm_Ok 0 9 [.int a0, .int a1, .int a2] μ Q := wm_ent (nL := 5) (l := [.int a0, .int a1, .int a2, .null, .null]) (by decide +kernel) (by decide +kernel) (by decide +kernel) rfl rfl (wm_vc mo_9 (rt := some .int) (by decide +kernel) mc_9 104 h)
-- WindBoat$Boat.paceOf(III)I, the place 33
set_option maxRecDepth 100000 in
set_option maxHeartbeats 8000000 in
theorem f_9_33 (x0 : Int32) (x2 : Int32) (x3 : Int32) (μ : wm_M) (Q : Option Value → wm_M → Prop) (h : (¬ (2 : Int32) = 0 ∧ (((x0).toInt < 1 ∨ 4 < (x0).toInt → wm_Wp 0 9 86 [.null, .null, .int x2, .null, .null] μ Q) ∧ (((x0).toInt = 1 → wm_Wp 0 9 68 [.null, .null, .null, .int x3, .null] μ Q) ∧ (((x0).toInt = 2 → wm_Wp 0 9 70 [.null, .null, .null, .int x3, .null] μ Q) ∧ (((x0).toInt = 3 → wm_Wp 0 9 74 [.null, .null, .null, .null, .int (x2 / (2 : Int32))] μ Q) ∧ (((x0).toInt = 4 → wm_Wp 0 9 77 [.null, .null, .null, .null, .int (x2 / (2 : Int32))] μ Q) ∧ True))))))) : wm_Wp 0 9 33 [.int x0, .null, .int x2, .int x3, .null] μ Q := wm_vc mo_9 (rt := some .int) (by decide +kernel) mc_9 104 h
-- WindBoat$Boat.paceOf(III)I, the place 68
set_option maxRecDepth 100000 in
set_option maxHeartbeats 8000000 in
theorem f_9_68 (x3 : Int32) (μ : wm_M) (Q : Option Value → wm_M → Prop) (h : Q (some (.int x3)) μ) : wm_Wp 0 9 68 [.null, .null, .null, .int x3, .null] μ Q := wm_vc mo_9 (rt := some .int) (by decide +kernel) mc_9 104 h
-- WindBoat$Boat.paceOf(III)I, the place 70
set_option maxRecDepth 100000 in
set_option maxHeartbeats 8000000 in
theorem f_9_70 (x3 : Int32) (μ : wm_M) (Q : Option Value → wm_M → Prop) (h : (¬ (2 : Int32) = 0 ∧ Q (some (.int (x3 / (2 : Int32)))) μ)) : wm_Wp 0 9 70 [.null, .null, .null, .int x3, .null] μ Q := wm_vc mo_9 (rt := some .int) (by decide +kernel) mc_9 104 h
-- WindBoat$Boat.paceOf(III)I, the place 74
set_option maxRecDepth 100000 in
set_option maxHeartbeats 8000000 in
theorem f_9_74 (x4 : Int32) (μ : wm_M) (Q : Option Value → wm_M → Prop) (h : Q (some (.int x4)) μ) : wm_Wp 0 9 74 [.null, .null, .null, .null, .int x4] μ Q := wm_vc mo_9 (rt := some .int) (by decide +kernel) mc_9 104 h
-- WindBoat$Boat.paceOf(III)I, the place 77
set_option maxRecDepth 100000 in
set_option maxHeartbeats 8000000 in
theorem f_9_77 (x4 : Int32) (μ : wm_M) (Q : Option Value → wm_M → Prop) (h : (¬ (10 : Int32) = 0 ∧ Q (some (.int ((x4 * (13 : Int32)) / (10 : Int32)))) μ)) : wm_Wp 0 9 77 [.null, .null, .null, .null, .int x4] μ Q := wm_vc mo_9 (rt := some .int) (by decide +kernel) mc_9 104 h
-- WindBoat$Boat.paceOf(III)I, the place 86
set_option maxRecDepth 100000 in
set_option maxHeartbeats 8000000 in
theorem f_9_86 (x2 : Int32) (μ : wm_M) (Q : Option Value → wm_M → Prop) (h : Q (some (.int x2)) μ) : wm_Wp 0 9 86 [.null, .null, .int x2, .null, .null] μ Q := wm_vc mo_9 (rt := some .int) (by decide +kernel) mc_9 104 h
-- WindBoat$Boat.addHand()I
set_option maxRecDepth 100000 in
set_option maxHeartbeats 8000000 in
theorem f_10 (μ : wm_M) (Q : Option Value → wm_M → Prop) (h : (vp_in (μ.1 13 13) 8 ∧ wm_Wp 0 10 10 [.ref 13] (wm_si μ 16 ((μ.1 13 13)).toNatClampNeg (0 : Int32)) Q)) : wm_Ok 0 10 [.ref 13] μ Q := wm_ent (nL := 1) (l := [.ref 13]) (by decide +kernel) (by decide +kernel) (by decide +kernel) rfl rfl (wm_vc mo_10 (rt := some .int) (by decide +kernel) mc_10 78 h)
-- WindBoat$Boat.addHand()I, the place 10
set_option maxRecDepth 100000 in
set_option maxHeartbeats 8000000 in
theorem f_10_10 (μ : wm_M) (Q : Option Value → wm_M → Prop) (h : (vp_in (μ.1 13 13) 8 ∧ wm_Wp 0 10 20 [.ref 13] (wm_si μ 17 ((μ.1 13 13)).toNatClampNeg (vp_nar .boolean (0 : Int32))) Q)) : wm_Wp 0 10 10 [.ref 13] μ Q := wm_vc mo_10 (rt := some .int) (by decide +kernel) mc_10 78 h
-- WindBoat$Boat.addHand()I, the place 20
set_option maxRecDepth 100000 in
set_option maxHeartbeats 8000000 in
theorem f_10_20 (μ : wm_M) (Q : Option Value → wm_M → Prop) (h : wm_Wp 0 10 30 [.ref 13] (wm_si μ 13 13 ((μ.1 13 13) + (1 : Int32))) Q) : wm_Wp 0 10 20 [.ref 13] μ Q := wm_vc mo_10 (rt := some .int) (by decide +kernel) mc_10 78 h
-- WindBoat$Boat.addHand()I, the place 30
set_option maxRecDepth 100000 in
set_option maxHeartbeats 8000000 in
theorem f_10_30 (μ : wm_M) (Q : Option Value → wm_M → Prop) (h : wm_Wp 0 10 40 [.ref 13] (wm_si μ 13 14 ((μ.1 13 14) + (1 : Int32))) Q) : wm_Wp 0 10 30 [.ref 13] μ Q := wm_vc mo_10 (rt := some .int) (by decide +kernel) mc_10 78 h
-- WindBoat$Boat.addHand()I, the place 40
set_option maxRecDepth 100000 in
set_option maxHeartbeats 8000000 in
theorem f_10_40 (μ : wm_M) (Q : Option Value → wm_M → Prop) (h : Q (some (.int ((μ.1 13 13) - (1 : Int32)))) μ) : wm_Wp 0 10 40 [.ref 13] μ Q := wm_vc mo_10 (rt := some .int) (by decide +kernel) mc_10 78 h
-- WindBoat$Boat.rest(IZ)V
set_option maxRecDepth 100000 in
set_option maxHeartbeats 8000000 in
theorem f_11 (a1 : Int32) (a2 : Int32) (μ : wm_M) (Q : Option Value → wm_M → Prop) (h : (vp_in a1 8 ∧ wm_OkI 0 177 [.int (μ.1 17 (a1).toNatClampNeg)] μ (fun r2 μ1 => wm_OkI 0 177 [.int a2] μ1 (fun r4 μ3 => wm_Wp 0 11 23 [.ref 13, .int a1, .int a2] (wm_si μ3 13 14 ((μ.1 13 14) + (r2 - r4))) Q)))) : wm_Ok 0 11 [.ref 13, .int a1, .int a2] μ Q := wm_ent (nL := 3) (l := [.ref 13, .int a1, .int a2]) (by decide +kernel) (by decide +kernel) (by decide +kernel) rfl rfl (wm_vc mo_11 (rt := none) (by decide +kernel) mc_11 58 h)
-- WindBoat$Boat.rest(IZ)V, the place 23
set_option maxRecDepth 100000 in
set_option maxHeartbeats 8000000 in
theorem f_11_23 (x1 : Int32) (x2 : Int32) (μ : wm_M) (Q : Option Value → wm_M → Prop) (h : (vp_in x1 8 ∧ wm_Wp 0 11 30 [.null, .null, .null] (wm_si μ 17 (x1).toNatClampNeg (vp_nar .boolean x2)) Q)) : wm_Wp 0 11 23 [.ref 13, .int x1, .int x2] μ Q := wm_vc mo_11 (rt := none) (by decide +kernel) mc_11 58 h
-- WindBoat$Boat.rest(IZ)V, the place 30
set_option maxRecDepth 100000 in
set_option maxHeartbeats 8000000 in
theorem f_11_30 (μ : wm_M) (Q : Option Value → wm_M → Prop) (h : Q none μ) : wm_Wp 0 11 30 [.null, .null, .null] μ Q := wm_vc mo_11 (rt := none) (by decide +kernel) mc_11 58 h
-- WindBoat$Boat.tire()V
set_option maxRecDepth 100000 in
set_option maxHeartbeats 8000000 in
theorem f_12 (μ : wm_M) (Q : Option Value → wm_M → Prop) (h : wm_Wp 0 12 2 [.ref 13, .int (0 : Int32), .null] μ Q) : wm_Ok 0 12 [.ref 13] μ Q := wm_ent (nL := 3) (l := [.ref 13, .null, .null]) (by decide +kernel) (by decide +kernel) (by decide +kernel) rfl rfl (wm_vc mo_12 (rt := none) (by decide +kernel) mc_12 84 h)
-- WindBoat$Boat.tire()V, the place 2
set_option maxRecDepth 100000 in
set_option maxHeartbeats 8000000 in
theorem f_12_2 (x1 : Int32) (μ : wm_M) (Q : Option Value → wm_M → Prop) (h : (((μ.1 13 13) ≤ x1 → wm_Wp 0 12 51 [.null, .null, .null] μ Q) ∧ (¬ (μ.1 13 13) ≤ x1 → (vp_in x1 8 ∧ (vp_in x1 8 ∧ (((μ.1 17 (x1).toNatClampNeg) = (0 : Int32) → (vp_in x1 8 ∧ wm_Wp 0 12 45 [.ref 13, .int x1, .null] (wm_si μ 16 (x1).toNatClampNeg ((μ.1 16 (x1).toNatClampNeg) + (1 : Int32))) Q)) ∧ (¬ (μ.1 17 (x1).toNatClampNeg) = (0 : Int32) → (vp_in x1 8 ∧ wm_Wp 0 12 45 [.ref 13, .int x1, .null] (wm_si μ 16 (x1).toNatClampNeg (if (0 : Int32) < ((μ.1 16 (x1).toNatClampNeg) - (2 : Int32)) then ((μ.1 16 (x1).toNatClampNeg) - (2 : Int32)) else (0 : Int32))) Q)))))))) : wm_Wp 0 12 2 [.ref 13, .int x1, .null] μ Q := wm_vc mo_12 (rt := none) (by decide +kernel) mc_12 84 h
-- WindBoat$Boat.tire()V, the place 45
set_option maxRecDepth 100000 in
set_option maxHeartbeats 8000000 in
theorem f_12_45 (x1 : Int32) (μ : wm_M) (Q : Option Value → wm_M → Prop) (h : wm_Wp 0 12 2 [.ref 13, .int (x1 + (1 : Int32)), .null] μ Q) : wm_Wp 0 12 45 [.ref 13, .int x1, .null] μ Q := wm_vc mo_12 (rt := none) (by decide +kernel) mc_12 84 h
-- WindBoat$Boat.tire()V, the place 51
set_option maxRecDepth 100000 in
set_option maxHeartbeats 8000000 in
theorem f_12_51 (μ : wm_M) (Q : Option Value → wm_M → Prop) (h : Q none μ) : wm_Wp 0 12 51 [.null, .null, .null] μ Q := wm_vc mo_12 (rt := none) (by decide +kernel) mc_12 84 h
-- WindBoat$Boat.awakeFrom(I)I
set_option maxRecDepth 100000 in
set_option maxHeartbeats 8000000 in
theorem f_13 (a1 : Int32) (μ : wm_M) (Q : Option Value → wm_M → Prop) (h : wm_Wp 0 13 4 [.ref 13, .int a1, .int (0 : Int32), .int (0 : Int32)] μ Q) : wm_Ok 0 13 [.ref 13, .int a1] μ Q := wm_ent (nL := 4) (l := [.ref 13, .int a1, .null, .null]) (by decide +kernel) (by decide +kernel) (by decide +kernel) rfl rfl (wm_vc mo_13 (rt := some .int) (by decide +kernel) mc_13 80 h)
-- WindBoat$Boat.awakeFrom(I)I, the place 4
set_option maxRecDepth 100000 in
set_option maxHeartbeats 8000000 in
theorem f_13_4 (x1 : Int32) (x2 : Int32) (x3 : Int32) (μ : wm_M) (Q : Option Value → wm_M → Prop) (h : (((μ.1 13 13) ≤ x3 → wm_Wp 0 13 48 [.null, .null, .int x2, .null] μ Q) ∧ (¬ (μ.1 13 13) ≤ x3 → (vp_in x3 8 ∧ (((μ.1 17 (x3).toNatClampNeg) = (0 : Int32) → (vp_in x3 8 ∧ (((μ.1 16 (x3).toNatClampNeg) < x1 → wm_OkI 0 177 [.int (0 : Int32)] μ (fun r2 μ1 => wm_Wp 0 13 42 [.ref 13, .int x1, .int (x2 + r2), .int x3] μ1 Q)) ∧ (¬ (μ.1 16 (x3).toNatClampNeg) < x1 → wm_OkI 0 177 [.int (1 : Int32)] μ (fun r4 μ3 => wm_Wp 0 13 42 [.ref 13, .int x1, .int (x2 + r4), .int x3] μ3 Q))))) ∧ (¬ (μ.1 17 (x3).toNatClampNeg) = (0 : Int32) → wm_OkI 0 177 [.int (0 : Int32)] μ (fun r6 μ5 => wm_Wp 0 13 42 [.ref 13, .int x1, .int (x2 + r6), .int x3] μ5 Q))))))) : wm_Wp 0 13 4 [.ref 13, .int x1, .int x2, .int x3] μ Q := wm_vc mo_13 (rt := some .int) (by decide +kernel) mc_13 80 h
-- WindBoat$Boat.awakeFrom(I)I, the place 42
set_option maxRecDepth 100000 in
set_option maxHeartbeats 8000000 in
theorem f_13_42 (x1 : Int32) (x2 : Int32) (x3 : Int32) (μ : wm_M) (Q : Option Value → wm_M → Prop) (h : wm_Wp 0 13 4 [.ref 13, .int x1, .int x2, .int (x3 + (1 : Int32))] μ Q) : wm_Wp 0 13 42 [.ref 13, .int x1, .int x2, .int x3] μ Q := wm_vc mo_13 (rt := some .int) (by decide +kernel) mc_13 80 h
-- WindBoat$Boat.awakeFrom(I)I, the place 48
set_option maxRecDepth 100000 in
set_option maxHeartbeats 8000000 in
theorem f_13_48 (x2 : Int32) (μ : wm_M) (Q : Option Value → wm_M → Prop) (h : Q (some (.int x2)) μ) : wm_Wp 0 13 48 [.null, .null, .int x2, .null] μ Q := wm_vc mo_13 (rt := some .int) (by decide +kernel) mc_13 80 h
-- WindBoat$Boat.tirednessOfAll()I
set_option maxRecDepth 100000 in
set_option maxHeartbeats 8000000 in
theorem f_14 (μ : wm_M) (Q : Option Value → wm_M → Prop) (h : wm_Wp 0 14 4 [.ref 13, .int (0 : Int32), .int (0 : Int32)] μ Q) : wm_Ok 0 14 [.ref 13] μ Q := wm_ent (nL := 3) (l := [.ref 13, .null, .null]) (by decide +kernel) (by decide +kernel) (by decide +kernel) rfl rfl (wm_vc mo_14 (rt := some .int) (by decide +kernel) mc_14 58 h)
-- WindBoat$Boat.tirednessOfAll()I, the place 4
set_option maxRecDepth 100000 in
set_option maxHeartbeats 8000000 in
theorem f_14_4 (x1 : Int32) (x2 : Int32) (μ : wm_M) (Q : Option Value → wm_M → Prop) (h : (((μ.1 13 13) ≤ x2 → wm_Wp 0 14 27 [.null, .int x1, .null] μ Q) ∧ (¬ (μ.1 13 13) ≤ x2 → (vp_in x2 8 ∧ wm_Wp 0 14 24 [.ref 13, .int (x1 + (μ.1 16 (x2).toNatClampNeg)), .int (x2 + (1 : Int32))] μ Q)))) : wm_Wp 0 14 4 [.ref 13, .int x1, .int x2] μ Q := wm_vc mo_14 (rt := some .int) (by decide +kernel) mc_14 58 h
-- WindBoat$Boat.tirednessOfAll()I, the place 24
set_option maxRecDepth 100000 in
set_option maxHeartbeats 8000000 in
theorem f_14_24 (x1 : Int32) (x2 : Int32) (μ : wm_M) (Q : Option Value → wm_M → Prop) (h : wm_Wp 0 14 4 [.ref 13, .int x1, .int x2] μ Q) : wm_Wp 0 14 24 [.ref 13, .int x1, .int x2] μ Q := wm_vc mo_14 (rt := some .int) (by decide +kernel) mc_14 58 h
-- WindBoat$Boat.tirednessOfAll()I, the place 27
set_option maxRecDepth 100000 in
set_option maxHeartbeats 8000000 in
theorem f_14_27 (x1 : Int32) (μ : wm_M) (Q : Option Value → wm_M → Prop) (h : Q (some (.int x1)) μ) : wm_Wp 0 14 27 [.null, .int x1, .null] μ Q := wm_vc mo_14 (rt := some .int) (by decide +kernel) mc_14 58 h
-- WindBoat$Chart.forget()V
set_option maxRecDepth 100000 in
set_option maxHeartbeats 8000000 in
theorem f_16 (μ : wm_M) (Q : Option Value → wm_M → Prop) (h : (((0 : Int32) = 0 ∨ (0 : Int32) = 1) ∧ wm_Wp 0 16 5 [.ref 62] (wm_si μ 62 7 (0 : Int32)) Q)) : wm_Ok 0 16 [.ref 62] μ Q := wm_ent (nL := 1) (l := [.ref 62]) (by decide +kernel) (by decide +kernel) (by decide +kernel) rfl rfl (wm_vc mo_16 (rt := none) (by decide +kernel) mc_16 34 h)
-- WindBoat$Chart.forget()V, the place 5
set_option maxRecDepth 100000 in
set_option maxHeartbeats 8000000 in
theorem f_16_5 (μ : wm_M) (Q : Option Value → wm_M → Prop) (h : wm_Wp 0 16 10 [.null] (wm_si μ 62 8 (-1 : Int32)) Q) : wm_Wp 0 16 5 [.ref 62] μ Q := wm_vc mo_16 (rt := none) (by decide +kernel) mc_16 34 h
-- WindBoat$Chart.forget()V, the place 10
set_option maxRecDepth 100000 in
set_option maxHeartbeats 8000000 in
theorem f_16_10 (μ : wm_M) (Q : Option Value → wm_M → Prop) (h : Q none μ) : wm_Wp 0 16 10 [.null] μ Q := wm_vc mo_16 (rt := none) (by decide +kernel) mc_16 34 h
-- WindBoat$Chart.ask()V
set_option maxRecDepth 100000 in
set_option maxHeartbeats 8000000 in
theorem f_17 (μ : wm_M) (Q : Option Value → wm_M → Prop) (h : (((μ.1 62 7) = (0 : Int32) → wm_Wp 0 17 8 [.ref 62, .null, .null, .null] μ Q) ∧ (¬ (μ.1 62 7) = (0 : Int32) → Q none μ))) : wm_Ok 0 17 [.ref 62] μ Q := wm_ent (nL := 4) (l := [.ref 62, .null, .null, .null]) (by decide +kernel) (by decide +kernel) (by decide +kernel) rfl rfl (wm_vc mo_17 (rt := none) (by decide +kernel) mc_17 94 h)
-- WindBoat$Chart.ask()V, the place 8
set_option maxRecDepth 100000 in
set_option maxHeartbeats 8000000 in
theorem f_17_8 (μ : wm_M) (Q : Option Value → wm_M → Prop) (h : wm_Wp 0 17 10 [.ref 62, .int (0 : Int32), .null, .null] μ Q) : wm_Wp 0 17 8 [.ref 62, .null, .null, .null] μ Q := wm_vc mo_17 (rt := none) (by decide +kernel) mc_17 94 h
-- WindBoat$Chart.ask()V, the place 10
set_option maxRecDepth 100000 in
set_option maxHeartbeats 8000000 in
theorem f_17_10 (x1 : Int32) (μ : wm_M) (Q : Option Value → wm_M → Prop) (h : (((36 : Int32) ≤ x1 → wm_Wp 0 17 65 [.ref 62, .null, .null, .null] μ Q) ∧ (¬ (36 : Int32) ≤ x1 → wm_Wp 0 17 18 [.ref 62, .int x1, .int (0 : Int32), .null] μ Q))) : wm_Wp 0 17 10 [.ref 62, .int x1, .null, .null] μ Q := wm_vc mo_17 (rt := none) (by decide +kernel) mc_17 94 h
-- WindBoat$Chart.ask()V, the place 18
set_option maxRecDepth 100000 in
set_option maxHeartbeats 8000000 in
theorem f_17_18 (x1 : Int32) (x2 : Int32) (μ : wm_M) (Q : Option Value → wm_M → Prop) (h : (((12 : Int32) ≤ x2 → wm_Wp 0 17 59 [.ref 62, .int x1, .null, .null] μ Q) ∧ (¬ (12 : Int32) ≤ x2 → wm_Wp 0 17 26 [.ref 62, .int x1, .int x2, .int (0 : Int32)] μ Q))) : wm_Wp 0 17 18 [.ref 62, .int x1, .int x2, .null] μ Q := wm_vc mo_17 (rt := none) (by decide +kernel) mc_17 94 h
-- WindBoat$Chart.ask()V, the place 26
set_option maxRecDepth 100000 in
set_option maxHeartbeats 8000000 in
theorem f_17_26 (x1 : Int32) (x2 : Int32) (x3 : Int32) (μ : wm_M) (Q : Option Value → wm_M → Prop) (h : (((μ.1 13 10) ≤ x3 → wm_Wp 0 17 53 [.ref 62, .int x1, .int x2, .null] μ Q) ∧ (¬ (μ.1 13 10) ≤ x3 → wm_OkV 0 18 [.ref 62, .int x1, .int x2, .int x3] μ (fun μ1 => wm_Wp 0 17 47 [.ref 62, .int x1, .int x2, .int x3] μ1 Q)))) : wm_Wp 0 17 26 [.ref 62, .int x1, .int x2, .int x3] μ Q := wm_vc mo_17 (rt := none) (by decide +kernel) mc_17 94 h
-- WindBoat$Chart.ask()V, the place 47
set_option maxRecDepth 100000 in
set_option maxHeartbeats 8000000 in
theorem f_17_47 (x1 : Int32) (x2 : Int32) (x3 : Int32) (μ : wm_M) (Q : Option Value → wm_M → Prop) (h : wm_Wp 0 17 26 [.ref 62, .int x1, .int x2, .int (x3 + (1 : Int32))] μ Q) : wm_Wp 0 17 47 [.ref 62, .int x1, .int x2, .int x3] μ Q := wm_vc mo_17 (rt := none) (by decide +kernel) mc_17 94 h
-- WindBoat$Chart.ask()V, the place 53
set_option maxRecDepth 100000 in
set_option maxHeartbeats 8000000 in
theorem f_17_53 (x1 : Int32) (x2 : Int32) (μ : wm_M) (Q : Option Value → wm_M → Prop) (h : wm_Wp 0 17 18 [.ref 62, .int x1, .int (x2 + (1 : Int32)), .null] μ Q) : wm_Wp 0 17 53 [.ref 62, .int x1, .int x2, .null] μ Q := wm_vc mo_17 (rt := none) (by decide +kernel) mc_17 94 h
-- WindBoat$Chart.ask()V, the place 59
set_option maxRecDepth 100000 in
set_option maxHeartbeats 8000000 in
theorem f_17_59 (x1 : Int32) (μ : wm_M) (Q : Option Value → wm_M → Prop) (h : wm_Wp 0 17 10 [.ref 62, .int (x1 + (1 : Int32)), .null, .null] μ Q) : wm_Wp 0 17 59 [.ref 62, .int x1, .null, .null] μ Q := wm_vc mo_17 (rt := none) (by decide +kernel) mc_17 94 h
-- WindBoat$Chart.ask()V, the place 65
set_option maxRecDepth 100000 in
set_option maxHeartbeats 8000000 in
theorem f_17_65 (μ : wm_M) (Q : Option Value → wm_M → Prop) (h : (((1 : Int32) = 0 ∨ (1 : Int32) = 1) ∧ wm_Wp 0 17 70 [.null, .null, .null, .null] (wm_si μ 62 7 (1 : Int32)) Q)) : wm_Wp 0 17 65 [.ref 62, .null, .null, .null] μ Q := wm_vc mo_17 (rt := none) (by decide +kernel) mc_17 94 h
-- WindBoat$Chart.ask()V, the place 70
set_option maxRecDepth 100000 in
set_option maxHeartbeats 8000000 in
theorem f_17_70 (μ : wm_M) (Q : Option Value → wm_M → Prop) (h : Q none μ) : wm_Wp 0 17 70 [.null, .null, .null, .null] μ Q := wm_vc mo_17 (rt := none) (by decide +kernel) mc_17 94 h
-- WindBoat$Chart.askOf(III)V
set_option maxRecDepth 100000 in
set_option maxHeartbeats 8000000 in
theorem f_18 (a1 : Int32) (a2 : Int32) (a3 : Int32) (μ : wm_M) (Q : Option Value → wm_M → Prop) (h : (vp_in a3 3 ∧ wm_OkV 0 47 [.ref 1, .int a1, .int (μ.1 14 (a3).toNatClampNeg), .int a2] μ (fun μ1 => wm_Wp 0 18 33 [.ref 62, .int a1, .null, .int a3, .int ((((a1 * (12 : Int32)) + a2) * (3 : Int32)) + a3)] μ1 Q))) : wm_Ok 0 18 [.ref 62, .int a1, .int a2, .int a3] μ Q := wm_ent (nL := 5) (l := [.ref 62, .int a1, .int a2, .int a3, .null]) (by decide +kernel) (by decide +kernel) (by decide +kernel) rfl rfl (wm_vc mo_18 (rt := none) (by decide +kernel) mc_18 152 h)
-- WindBoat$Chart.askOf(III)V, the place 33
set_option maxRecDepth 100000 in
set_option maxHeartbeats 8000000 in
theorem f_18_33 (x1 : Int32) (x3 : Int32) (x4 : Int32) (μ : wm_M) (Q : Option Value → wm_M → Prop) (h : (vp_in x1 36 ∧ (((μ.1 3 (x1).toNatClampNeg) = (0 : Int32) → wm_OkI 0 64 [.ref 18, .int (0 : Int32)] μ (fun r2 μ1 => ((r2 = (0 : Int32) → (vp_in x4 1296 ∧ wm_Wp 0 18 74 [.ref 62, .null, .null, .int x3, .int x4] (wm_si μ1 63 (x4).toNatClampNeg (vp_nar .boolean (0 : Int32))) Q)) ∧ (¬ r2 = (0 : Int32) → (vp_in x4 1296 ∧ wm_Wp 0 18 74 [.ref 62, .null, .null, .int x3, .int x4] (wm_si μ1 63 (x4).toNatClampNeg (vp_nar .boolean (1 : Int32))) Q))))) ∧ (¬ (μ.1 3 (x1).toNatClampNeg) = (0 : Int32) → (vp_in x4 1296 ∧ wm_Wp 0 18 74 [.ref 62, .null, .null, .int x3, .int x4] (wm_si μ 63 (x4).toNatClampNeg (vp_nar .boolean (1 : Int32))) Q))))) : wm_Wp 0 18 33 [.ref 62, .int x1, .null, .int x3, .int x4] μ Q := wm_vc mo_18 (rt := none) (by decide +kernel) mc_18 152 h
-- WindBoat$Chart.askOf(III)V, the place 74
set_option maxRecDepth 100000 in
set_option maxHeartbeats 8000000 in
theorem f_18_74 (x3 : Int32) (x4 : Int32) (μ : wm_M) (Q : Option Value → wm_M → Prop) (h : (vp_in x3 3 ∧ (((μ.1 15 (x3).toNatClampNeg) = (0 : Int32) → wm_OkI 0 6 [.ref 13, .int x3] μ (fun r2 μ1 => wm_OkI 0 64 [.ref 18, .int (1 : Int32)] μ1 (fun r4 μ3 => (vp_in x4 1296 ∧ wm_Wp 0 18 125 [.null, .null, .null, .null, .null] (wm_si μ3 64 (x4).toNatClampNeg (if r4 < r2 then r4 else r2)) Q)))) ∧ (¬ (μ.1 15 (x3).toNatClampNeg) = (0 : Int32) → (vp_in x4 1296 ∧ wm_Wp 0 18 125 [.null, .null, .null, .null, .null] (wm_si μ 64 (x4).toNatClampNeg (-1 : Int32)) Q))))) : wm_Wp 0 18 74 [.ref 62, .null, .null, .int x3, .int x4] μ Q := wm_vc mo_18 (rt := none) (by decide +kernel) mc_18 152 h
-- WindBoat$Chart.askOf(III)V, the place 125
set_option maxRecDepth 100000 in
set_option maxHeartbeats 8000000 in
theorem f_18_125 (μ : wm_M) (Q : Option Value → wm_M → Prop) (h : Q none μ) : wm_Wp 0 18 125 [.null, .null, .null, .null, .null] μ Q := wm_vc mo_18 (rt := none) (by decide +kernel) mc_18 152 h
-- WindBoat$Chart.draw(II)V
set_option maxRecDepth 100000 in
set_option maxHeartbeats 8000000 in
theorem f_19 (a1 : Int32) (a2 : Int32) (μ : wm_M) (Q : Option Value → wm_M → Prop) (h : (((μ.1 62 8) = (((2 : Int32) * a1) + a2) → Q none μ) ∧ (¬ (μ.1 62 8) = (((2 : Int32) * a1) + a2) → wm_Wp 0 19 13 [.ref 62, .int a1, .int a2, .null] μ Q))) : wm_Ok 0 19 [.ref 62, .int a1, .int a2] μ Q := wm_ent (nL := 4) (l := [.ref 62, .int a1, .int a2, .null]) (by decide +kernel) (by decide +kernel) (by decide +kernel) rfl rfl (wm_vc mo_19 (rt := none) (by decide +kernel) mc_19 104 h)
-- WindBoat$Chart.draw(II)V, the place 13
set_option maxRecDepth 100000 in
set_option maxHeartbeats 8000000 in
theorem f_19_13 (x1 : Int32) (x2 : Int32) (μ : wm_M) (Q : Option Value → wm_M → Prop) (h : wm_Wp 0 19 15 [.ref 62, .int x1, .int x2, .int (0 : Int32)] μ Q) : wm_Wp 0 19 13 [.ref 62, .int x1, .int x2, .null] μ Q := wm_vc mo_19 (rt := none) (by decide +kernel) mc_19 104 h
-- WindBoat$Chart.draw(II)V, the place 15
set_option maxRecDepth 100000 in
set_option maxHeartbeats 8000000 in
theorem f_19_15 (x1 : Int32) (x2 : Int32) (x3 : Int32) (μ : wm_M) (Q : Option Value → wm_M → Prop) (h : (((12 : Int32) ≤ x3 → wm_Wp 0 19 33 [.ref 62, .int x1, .int x2, .null] μ Q) ∧ (¬ (12 : Int32) ≤ x3 → wm_OkV 0 20 [.ref 62, .int x1, .int x3] μ (fun μ1 => wm_Wp 0 19 27 [.ref 62, .int x1, .int x2, .int x3] μ1 Q)))) : wm_Wp 0 19 15 [.ref 62, .int x1, .int x2, .int x3] μ Q := wm_vc mo_19 (rt := none) (by decide +kernel) mc_19 104 h
-- WindBoat$Chart.draw(II)V, the place 27
set_option maxRecDepth 100000 in
set_option maxHeartbeats 8000000 in
theorem f_19_27 (x1 : Int32) (x2 : Int32) (x3 : Int32) (μ : wm_M) (Q : Option Value → wm_M → Prop) (h : wm_Wp 0 19 15 [.ref 62, .int x1, .int x2, .int (x3 + (1 : Int32))] μ Q) : wm_Wp 0 19 27 [.ref 62, .int x1, .int x2, .int x3] μ Q := wm_vc mo_19 (rt := none) (by decide +kernel) mc_19 104 h
-- WindBoat$Chart.draw(II)V, the place 33
set_option maxRecDepth 100000 in
set_option maxHeartbeats 8000000 in
theorem f_19_33 (x1 : Int32) (x2 : Int32) (μ : wm_M) (Q : Option Value → wm_M → Prop) (h : wm_Wp 0 19 35 [.ref 62, .int x1, .int x2, .int (0 : Int32)] μ Q) : wm_Wp 0 19 33 [.ref 62, .int x1, .int x2, .null] μ Q := wm_vc mo_19 (rt := none) (by decide +kernel) mc_19 104 h
-- WindBoat$Chart.draw(II)V, the place 35
set_option maxRecDepth 100000 in
set_option maxHeartbeats 8000000 in
theorem f_19_35 (x1 : Int32) (x2 : Int32) (x3 : Int32) (μ : wm_M) (Q : Option Value → wm_M → Prop) (h : (((μ.1 13 10) ≤ x3 → wm_Wp 0 19 61 [.ref 62, .int x1, .int x2, .null] μ Q) ∧ (¬ (μ.1 13 10) ≤ x3 → wm_OkV 0 21 [.ref 62, .int x3, .int x2] μ (fun μ1 => wm_Wp 0 19 55 [.ref 62, .int x1, .int x2, .int x3] μ1 Q)))) : wm_Wp 0 19 35 [.ref 62, .int x1, .int x2, .int x3] μ Q := wm_vc mo_19 (rt := none) (by decide +kernel) mc_19 104 h
-- WindBoat$Chart.draw(II)V, the place 55
set_option maxRecDepth 100000 in
set_option maxHeartbeats 8000000 in
theorem f_19_55 (x1 : Int32) (x2 : Int32) (x3 : Int32) (μ : wm_M) (Q : Option Value → wm_M → Prop) (h : wm_Wp 0 19 35 [.ref 62, .int x1, .int x2, .int (x3 + (1 : Int32))] μ Q) : wm_Wp 0 19 55 [.ref 62, .int x1, .int x2, .int x3] μ Q := wm_vc mo_19 (rt := none) (by decide +kernel) mc_19 104 h
-- WindBoat$Chart.draw(II)V, the place 61
set_option maxRecDepth 100000 in
set_option maxHeartbeats 8000000 in
theorem f_19_61 (x1 : Int32) (x2 : Int32) (μ : wm_M) (Q : Option Value → wm_M → Prop) (h : wm_Wp 0 19 70 [.null, .null, .null, .null] (wm_si μ 62 8 (((2 : Int32) * x1) + x2)) Q) : wm_Wp 0 19 61 [.ref 62, .int x1, .int x2, .null] μ Q := wm_vc mo_19 (rt := none) (by decide +kernel) mc_19 104 h
-- WindBoat$Chart.draw(II)V, the place 70
set_option maxRecDepth 100000 in
set_option maxHeartbeats 8000000 in
theorem f_19_70 (μ : wm_M) (Q : Option Value → wm_M → Prop) (h : Q none μ) : wm_Wp 0 19 70 [.null, .null, .null, .null] μ Q := wm_vc mo_19 (rt := none) (by decide +kernel) mc_19 104 h
-- WindBoat$Chart.drawWind(II)V
set_option maxRecDepth 100000 in
set_option maxHeartbeats 8000000 in
theorem f_20 (a1 : Int32) (a2 : Int32) (μ : wm_M) (Q : Option Value → wm_M → Prop) (h : wm_OkI 0 71 [.ref 2, .int a1, .int a2] μ (fun r2 μ1 => wm_Wp 0 20 13 [.ref 62, .int a1, .int a2, .int r2, .null, .null] μ1 Q)) : wm_Ok 0 20 [.ref 62, .int a1, .int a2] μ Q := wm_ent (nL := 6) (l := [.ref 62, .int a1, .int a2, .null, .null, .null]) (by decide +kernel) (by decide +kernel) (by decide +kernel) rfl rfl (wm_vc mo_20 (rt := none) (by decide +kernel) mc_20 128 h)
-- WindBoat$Chart.drawWind(II)V, the place 13
set_option maxRecDepth 100000 in
set_option maxHeartbeats 8000000 in
theorem f_20_13 (x1 : Int32) (x2 : Int32) (x3 : Int32) (μ : wm_M) (Q : Option Value → wm_M → Prop) (h : wm_Wp 0 20 16 [.ref 62, .int x1, .int x2, .int x3, .int (0 : Int32), .null] μ Q) : wm_Wp 0 20 13 [.ref 62, .int x1, .int x2, .int x3, .null, .null] μ Q := wm_vc mo_20 (rt := none) (by decide +kernel) mc_20 128 h
-- WindBoat$Chart.drawWind(II)V, the place 16
set_option maxRecDepth 100000 in
set_option maxHeartbeats 8000000 in
theorem f_20_16 (x1 : Int32) (x2 : Int32) (x3 : Int32) (x4 : Int32) (μ : wm_M) (Q : Option Value → wm_M → Prop) (h : (((8 : Int32) ≤ x4 → wm_Wp 0 20 47 [.ref 62, .int x1, .int x2, .null, .null, .null] μ Q) ∧ (¬ (8 : Int32) ≤ x4 → wm_OkI 0 181 [.int x4, .int x3] μ (fun r2 μ1 => (vp_in ((x2 * (8 : Int32)) + x4) 96 ∧ wm_Wp 0 20 41 [.ref 62, .int x1, .int x2, .int x3, .int x4, .null] (wm_si μ1 66 (((x2 * (8 : Int32)) + x4)).toNatClampNeg r2) Q))))) : wm_Wp 0 20 16 [.ref 62, .int x1, .int x2, .int x3, .int x4, .null] μ Q := wm_vc mo_20 (rt := none) (by decide +kernel) mc_20 128 h
-- WindBoat$Chart.drawWind(II)V, the place 41
set_option maxRecDepth 100000 in
set_option maxHeartbeats 8000000 in
theorem f_20_41 (x1 : Int32) (x2 : Int32) (x3 : Int32) (x4 : Int32) (μ : wm_M) (Q : Option Value → wm_M → Prop) (h : wm_Wp 0 20 16 [.ref 62, .int x1, .int x2, .int x3, .int (x4 + (1 : Int32)), .null] μ Q) : wm_Wp 0 20 41 [.ref 62, .int x1, .int x2, .int x3, .int x4, .null] μ Q := wm_vc mo_20 (rt := none) (by decide +kernel) mc_20 128 h
-- WindBoat$Chart.drawWind(II)V, the place 47
set_option maxRecDepth 100000 in
set_option maxHeartbeats 8000000 in
theorem f_20_47 (x1 : Int32) (x2 : Int32) (μ : wm_M) (Q : Option Value → wm_M → Prop) (h : wm_OkI 0 72 [.ref 2, .int x1, .int x2] μ (fun r2 μ1 => wm_Wp 0 20 61 [.ref 62, .null, .int x2, .null, .int r2, .null] μ1 Q)) : wm_Wp 0 20 47 [.ref 62, .int x1, .int x2, .null, .null, .null] μ Q := wm_vc mo_20 (rt := none) (by decide +kernel) mc_20 128 h
-- WindBoat$Chart.drawWind(II)V, the place 61
set_option maxRecDepth 100000 in
set_option maxHeartbeats 8000000 in
theorem f_20_61 (x2 : Int32) (x4 : Int32) (μ : wm_M) (Q : Option Value → wm_M → Prop) (h : wm_Wp 0 20 64 [.ref 62, .null, .int x2, .null, .int x4, .int (0 : Int32)] μ Q) : wm_Wp 0 20 61 [.ref 62, .null, .int x2, .null, .int x4, .null] μ Q := wm_vc mo_20 (rt := none) (by decide +kernel) mc_20 128 h
-- WindBoat$Chart.drawWind(II)V, the place 64
set_option maxRecDepth 100000 in
set_option maxHeartbeats 8000000 in
theorem f_20_64 (x2 : Int32) (x4 : Int32) (x5 : Int32) (μ : wm_M) (Q : Option Value → wm_M → Prop) (h : (((36 : Int32) ≤ x5 → wm_Wp 0 20 103 [.null, .null, .null, .null, .null, .null] μ Q) ∧ (¬ (36 : Int32) ≤ x5 → wm_OkI 0 74 [.ref 2, .int x4, .int x5] μ (fun r2 μ1 => (vp_in ((x5 * (12 : Int32)) + x2) 432 ∧ wm_Wp 0 20 97 [.ref 62, .null, .int x2, .null, .int x4, .int x5] (wm_si μ1 65 (((x5 * (12 : Int32)) + x2)).toNatClampNeg r2) Q))))) : wm_Wp 0 20 64 [.ref 62, .null, .int x2, .null, .int x4, .int x5] μ Q := wm_vc mo_20 (rt := none) (by decide +kernel) mc_20 128 h
-- WindBoat$Chart.drawWind(II)V, the place 97
set_option maxRecDepth 100000 in
set_option maxHeartbeats 8000000 in
theorem f_20_97 (x2 : Int32) (x4 : Int32) (x5 : Int32) (μ : wm_M) (Q : Option Value → wm_M → Prop) (h : wm_Wp 0 20 64 [.ref 62, .null, .int x2, .null, .int x4, .int (x5 + (1 : Int32))] μ Q) : wm_Wp 0 20 97 [.ref 62, .null, .int x2, .null, .int x4, .int x5] μ Q := wm_vc mo_20 (rt := none) (by decide +kernel) mc_20 128 h
-- WindBoat$Chart.drawWind(II)V, the place 103
set_option maxRecDepth 100000 in
set_option maxHeartbeats 8000000 in
theorem f_20_103 (μ : wm_M) (Q : Option Value → wm_M → Prop) (h : Q none μ) : wm_Wp 0 20 103 [.null, .null, .null, .null, .null, .null] μ Q := wm_vc mo_20 (rt := none) (by decide +kernel) mc_20 128 h
-- WindBoat$Chart.drawPaces(II)V
set_option maxRecDepth 100000 in
set_option maxHeartbeats 8000000 in
theorem f_21 (a1 : Int32) (a2 : Int32) (μ : wm_M) (Q : Option Value → wm_M → Prop) (h : wm_Wp 0 21 2 [.ref 62, .int a1, .int a2, .int (0 : Int32), .null, .null] μ Q) : wm_Ok 0 21 [.ref 62, .int a1, .int a2] μ Q := wm_ent (nL := 6) (l := [.ref 62, .int a1, .int a2, .null, .null, .null]) (by decide +kernel) (by decide +kernel) (by decide +kernel) rfl rfl (wm_vc mo_21 (rt := none) (by decide +kernel) mc_21 114 h)
-- WindBoat$Chart.drawPaces(II)V, the place 2
set_option maxRecDepth 100000 in
set_option maxHeartbeats 8000000 in
theorem f_21_2 (x1 : Int32) (x2 : Int32) (x3 : Int32) (μ : wm_M) (Q : Option Value → wm_M → Prop) (h : (((5 : Int32) ≤ x3 → wm_Wp 0 21 80 [.null, .null, .null, .null, .null, .null] μ Q) ∧ (¬ (5 : Int32) ≤ x3 → wm_Wp 0 21 10 [.ref 62, .int x1, .int x2, .int x3, .int (0 : Int32), .null] μ Q))) : wm_Wp 0 21 2 [.ref 62, .int x1, .int x2, .int x3, .null, .null] μ Q := wm_vc mo_21 (rt := none) (by decide +kernel) mc_21 114 h
-- WindBoat$Chart.drawPaces(II)V, the place 10
set_option maxRecDepth 100000 in
set_option maxHeartbeats 8000000 in
theorem f_21_10 (x1 : Int32) (x2 : Int32) (x3 : Int32) (x4 : Int32) (μ : wm_M) (Q : Option Value → wm_M → Prop) (h : (((5 : Int32) ≤ x4 → wm_Wp 0 21 74 [.ref 62, .int x1, .int x2, .int x3, .null, .null] μ Q) ∧ (¬ (5 : Int32) ≤ x4 → wm_OkI 0 85 [.ref 7, .int x2, .int ((x3 * (5 : Int32)) + x4)] μ (fun r2 μ1 => wm_Wp 0 21 35 [.ref 62, .int x1, .int x2, .int x3, .int x4, .int r2] μ1 Q)))) : wm_Wp 0 21 10 [.ref 62, .int x1, .int x2, .int x3, .int x4, .null] μ Q := wm_vc mo_21 (rt := none) (by decide +kernel) mc_21 114 h
-- WindBoat$Chart.drawPaces(II)V, the place 35
set_option maxRecDepth 100000 in
set_option maxHeartbeats 8000000 in
theorem f_21_35 (x1 : Int32) (x2 : Int32) (x3 : Int32) (x4 : Int32) (x5 : Int32) (μ : wm_M) (Q : Option Value → wm_M → Prop) (h : (vp_in x1 3 ∧ wm_OkI 0 9 [.int (μ.1 14 (x1).toNatClampNeg), .int x3, .int x5] μ (fun r2 μ1 => (vp_in ((((x1 * (5 : Int32)) + x3) * (5 : Int32)) + x4) 75 ∧ wm_Wp 0 21 68 [.ref 62, .int x1, .int x2, .int x3, .int x4, .null] (wm_si μ1 67 (((((x1 * (5 : Int32)) + x3) * (5 : Int32)) + x4)).toNatClampNeg r2) Q)))) : wm_Wp 0 21 35 [.ref 62, .int x1, .int x2, .int x3, .int x4, .int x5] μ Q := wm_vc mo_21 (rt := none) (by decide +kernel) mc_21 114 h
-- WindBoat$Chart.drawPaces(II)V, the place 68
set_option maxRecDepth 100000 in
set_option maxHeartbeats 8000000 in
theorem f_21_68 (x1 : Int32) (x2 : Int32) (x3 : Int32) (x4 : Int32) (μ : wm_M) (Q : Option Value → wm_M → Prop) (h : wm_Wp 0 21 10 [.ref 62, .int x1, .int x2, .int x3, .int (x4 + (1 : Int32)), .null] μ Q) : wm_Wp 0 21 68 [.ref 62, .int x1, .int x2, .int x3, .int x4, .null] μ Q := wm_vc mo_21 (rt := none) (by decide +kernel) mc_21 114 h
-- WindBoat$Chart.drawPaces(II)V, the place 74
set_option maxRecDepth 100000 in
set_option maxHeartbeats 8000000 in
theorem f_21_74 (x1 : Int32) (x2 : Int32) (x3 : Int32) (μ : wm_M) (Q : Option Value → wm_M → Prop) (h : wm_Wp 0 21 2 [.ref 62, .int x1, .int x2, .int (x3 + (1 : Int32)), .null, .null] μ Q) : wm_Wp 0 21 74 [.ref 62, .int x1, .int x2, .int x3, .null, .null] μ Q := wm_vc mo_21 (rt := none) (by decide +kernel) mc_21 114 h
-- WindBoat$Chart.drawPaces(II)V, the place 80
set_option maxRecDepth 100000 in
set_option maxHeartbeats 8000000 in
theorem f_21_80 (μ : wm_M) (Q : Option Value → wm_M → Prop) (h : Q none μ) : wm_Wp 0 21 80 [.null, .null, .null, .null, .null, .null] μ Q := wm_vc mo_21 (rt := none) (by decide +kernel) mc_21 114 h
-- WindBoat$Chart.stepTicks(IIII)I
set_option maxRecDepth 100000 in
set_option maxHeartbeats 8000000 in
theorem f_22 (a1 : Int32) (a2 : Int32) (a3 : Int32) (a4 : Int32) (μ : wm_M) (Q : Option Value → wm_M → Prop) (h : (vp_in ((a1 * (8 : Int32)) + a2) 288 ∧ (((μ.1 68 (((a1 * (8 : Int32)) + a2)).toNatClampNeg) = (-1 : Int32) → wm_Wp 0 22 39 [.null, .null, .null, .null, .null, .null, .null, .null, .null, .null] μ Q) ∧ (¬ (μ.1 68 (((a1 * (8 : Int32)) + a2)).toNatClampNeg) = (-1 : Int32) → wm_Wp 0 22 19 [.ref 62, .int a1, .int a2, .int a3, .int a4, .int (μ.1 68 (((a1 * (8 : Int32)) + a2)).toNatClampNeg), .null, .null, .null, .null] μ Q)))) : wm_Ok 0 22 [.ref 62, .int a1, .int a2, .int a3, .int a4] μ Q := wm_ent (nL := 10) (l := [.ref 62, .int a1, .int a2, .int a3, .int a4, .null, .null, .null, .null, .null]) (by decide +kernel) (by decide +kernel) (by decide +kernel) rfl rfl (wm_vc mo_22 (rt := some .int) (by decide +kernel) mc_22 216 h)
-- WindBoat$Chart.stepTicks(IIII)I, the place 19
set_option maxRecDepth 100000 in
set_option maxHeartbeats 8000000 in
theorem f_22_19 (x1 : Int32) (x2 : Int32) (x3 : Int32) (x4 : Int32) (x5 : Int32) (μ : wm_M) (Q : Option Value → wm_M → Prop) (h : (vp_in ((((x5 * (12 : Int32)) + x4) * (3 : Int32)) + x3) 1296 ∧ (((μ.1 63 (((((x5 * (12 : Int32)) + x4) * (3 : Int32)) + x3)).toNatClampNeg) = (0 : Int32) → wm_Wp 0 22 41 [.ref 62, .int x1, .int x2, .int x3, .int x4, .null, .null, .null, .null, .null] μ Q) ∧ (¬ (μ.1 63 (((((x5 * (12 : Int32)) + x4) * (3 : Int32)) + x3)).toNatClampNeg) = (0 : Int32) → wm_Wp 0 22 39 [.null, .null, .null, .null, .null, .null, .null, .null, .null, .null] μ Q)))) : wm_Wp 0 22 19 [.ref 62, .int x1, .int x2, .int x3, .int x4, .int x5, .null, .null, .null, .null] μ Q := wm_vc mo_22 (rt := some .int) (by decide +kernel) mc_22 216 h
-- WindBoat$Chart.stepTicks(IIII)I, the place 39
set_option maxRecDepth 100000 in
set_option maxHeartbeats 8000000 in
theorem f_22_39 (μ : wm_M) (Q : Option Value → wm_M → Prop) (h : Q (some (.int (0 : Int32))) μ) : wm_Wp 0 22 39 [.null, .null, .null, .null, .null, .null, .null, .null, .null, .null] μ Q := wm_vc mo_22 (rt := some .int) (by decide +kernel) mc_22 216 h
-- WindBoat$Chart.stepTicks(IIII)I, the place 41
set_option maxRecDepth 100000 in
set_option maxHeartbeats 8000000 in
theorem f_22_41 (x1 : Int32) (x2 : Int32) (x3 : Int32) (x4 : Int32) (μ : wm_M) (Q : Option Value → wm_M → Prop) (h : (vp_in ((x1 * (12 : Int32)) + x4) 432 ∧ (vp_in ((((x1 * (12 : Int32)) + x4) * (3 : Int32)) + x3) 1296 ∧ (((μ.1 65 (((x1 * (12 : Int32)) + x4)).toNatClampNeg) ≤ (μ.1 64 (((((x1 * (12 : Int32)) + x4) * (3 : Int32)) + x3)).toNatClampNeg) → wm_Wp 0 22 78 [.ref 62, .null, .int x2, .int x3, .int x4, .null, .int (μ.1 65 (((x1 * (12 : Int32)) + x4)).toNatClampNeg), .null, .null, .null] μ Q) ∧ (¬ (μ.1 65 (((x1 * (12 : Int32)) + x4)).toNatClampNeg) ≤ (μ.1 64 (((((x1 * (12 : Int32)) + x4) * (3 : Int32)) + x3)).toNatClampNeg) → wm_Wp 0 22 76 [.null, .null, .null, .null, .null, .null, .null, .null, .null, .null] μ Q))))) : wm_Wp 0 22 41 [.ref 62, .int x1, .int x2, .int x3, .int x4, .null, .null, .null, .null, .null] μ Q := wm_vc mo_22 (rt := some .int) (by decide +kernel) mc_22 216 h
-- WindBoat$Chart.stepTicks(IIII)I, the place 76
set_option maxRecDepth 100000 in
set_option maxHeartbeats 8000000 in
theorem f_22_76 (μ : wm_M) (Q : Option Value → wm_M → Prop) (h : Q (some (.int (0 : Int32))) μ) : wm_Wp 0 22 76 [.null, .null, .null, .null, .null, .null, .null, .null, .null, .null] μ Q := wm_vc mo_22 (rt := some .int) (by decide +kernel) mc_22 216 h
-- WindBoat$Chart.stepTicks(IIII)I, the place 78
set_option maxRecDepth 100000 in
set_option maxHeartbeats 8000000 in
theorem f_22_78 (x2 : Int32) (x3 : Int32) (x4 : Int32) (x6 : Int32) (μ : wm_M) (Q : Option Value → wm_M → Prop) (h : (vp_in ((x4 * (8 : Int32)) + x2) 96 ∧ (¬ (8 : Int32) = 0 ∧ (vp_in ((((x3 * (5 : Int32)) + (μ.1 66 (((x4 * (8 : Int32)) + x2)).toNatClampNeg)) * (5 : Int32)) + (x6 / (8 : Int32))) 75 ∧ wm_Wp 0 22 113 [.null, .null, .int x2, .null, .null, .null, .null, .null, .int (μ.1 67 (((((x3 * (5 : Int32)) + (μ.1 66 (((x4 * (8 : Int32)) + x2)).toNatClampNeg)) * (5 : Int32)) + (x6 / (8 : Int32)))).toNatClampNeg), .null] μ Q)))) : wm_Wp 0 22 78 [.ref 62, .null, .int x2, .int x3, .int x4, .null, .int x6, .null, .null, .null] μ Q := wm_vc mo_22 (rt := some .int) (by decide +kernel) mc_22 216 h
-- WindBoat$Chart.stepTicks(IIII)I, the place 113
set_option maxRecDepth 100000 in
set_option maxHeartbeats 8000000 in
theorem f_22_113 (x2 : Int32) (x8 : Int32) (μ : wm_M) (Q : Option Value → wm_M → Prop) (h : (((0 : Int32) < x8 → wm_Wp 0 22 120 [.null, .null, .int x2, .null, .null, .null, .null, .null, .int x8, .null] μ Q) ∧ (¬ (0 : Int32) < x8 → Q (some (.int (0 : Int32))) μ))) : wm_Wp 0 22 113 [.null, .null, .int x2, .null, .null, .null, .null, .null, .int x8, .null] μ Q := wm_vc mo_22 (rt := some .int) (by decide +kernel) mc_22 216 h
-- WindBoat$Chart.stepTicks(IIII)I, the place 120
set_option maxRecDepth 100000 in
set_option maxHeartbeats 8000000 in
theorem f_22_120 (x2 : Int32) (x8 : Int32) (μ : wm_M) (Q : Option Value → wm_M → Prop) (h : (¬ (2 : Int32) = 0 ∧ (((x2 - x2 / (2 : Int32) * (2 : Int32)) = (0 : Int32) → (¬ x8 = 0 ∧ Q (some (.int (((((10 : Int32) * (10 : Int32)) + x8) - (1 : Int32)) / x8))) μ)) ∧ (¬ (x2 - x2 / (2 : Int32) * (2 : Int32)) = (0 : Int32) → wm_Wp 0 22 131 [.null, .null, .null, .null, .null, .null, .null, .null, .int x8, .null] μ Q)))) : wm_Wp 0 22 120 [.null, .null, .int x2, .null, .null, .null, .null, .null, .int x8, .null] μ Q := wm_vc mo_22 (rt := some .int) (by decide +kernel) mc_22 216 h
-- WindBoat$Chart.stepTicks(IIII)I, the place 131
set_option maxRecDepth 100000 in
set_option maxHeartbeats 8000000 in
theorem f_22_131 (x8 : Int32) (μ : wm_M) (Q : Option Value → wm_M → Prop) (h : (¬ x8 = 0 ∧ Q (some (.int (((((10 : Int32) * (14 : Int32)) + x8) - (1 : Int32)) / x8))) μ)) : wm_Wp 0 22 131 [.null, .null, .null, .null, .null, .null, .null, .null, .int x8, .null] μ Q := wm_vc mo_22 (rt := some .int) (by decide +kernel) mc_22 216 h
-- WindBoat$Chart.endOfNextStep(IIII)I
set_option maxRecDepth 100000 in
set_option maxHeartbeats 8000000 in
theorem f_23 (a1 : Int32) (a2 : Int32) (a3 : Int32) (a4 : Int32) (μ : wm_M) (Q : Option Value → wm_M → Prop) (h : wm_OkI 0 180 [.int a4] μ (fun r2 μ1 => wm_Wp 0 23 7 [.ref 62, .int a1, .int a2, .int a3, .int a4, .int r2, .null] μ1 Q)) : wm_Ok 0 23 [.ref 62, .int a1, .int a2, .int a3, .int a4] μ Q := wm_ent (nL := 7) (l := [.ref 62, .int a1, .int a2, .int a3, .int a4, .null, .null]) (by decide +kernel) (by decide +kernel) (by decide +kernel) rfl rfl (wm_vc mo_23 (rt := some .int) (by decide +kernel) mc_23 74 h)
-- WindBoat$Chart.endOfNextStep(IIII)I, the place 7
set_option maxRecDepth 100000 in
set_option maxHeartbeats 8000000 in
theorem f_23_7 (x1 : Int32) (x2 : Int32) (x3 : Int32) (x4 : Int32) (x5 : Int32) (μ : wm_M) (Q : Option Value → wm_M → Prop) (h : (((12 : Int32) ≤ x5 → wm_Wp 0 23 50 [.null, .null, .null, .null, .null, .null, .null] μ Q) ∧ (¬ (12 : Int32) ≤ x5 → wm_OkI 0 22 [.ref 62, .int x1, .int x2, .int x3, .int x5] μ (fun r2 μ1 => wm_Wp 0 23 25 [.ref 62, .int x1, .int x2, .int x3, .int x4, .int x5, .int r2] μ1 Q)))) : wm_Wp 0 23 7 [.ref 62, .int x1, .int x2, .int x3, .int x4, .int x5, .null] μ Q := wm_vc mo_23 (rt := some .int) (by decide +kernel) mc_23 74 h
-- WindBoat$Chart.endOfNextStep(IIII)I, the place 25
set_option maxRecDepth 100000 in
set_option maxHeartbeats 8000000 in
theorem f_23_25 (x1 : Int32) (x2 : Int32) (x3 : Int32) (x4 : Int32) (x5 : Int32) (x6 : Int32) (μ : wm_M) (Q : Option Value → wm_M → Prop) (h : ((x6 ≤ (0 : Int32) → wm_Wp 0 23 44 [.ref 62, .int x1, .int x2, .int x3, .int x4, .int x5, .null] μ Q) ∧ (¬ x6 ≤ (0 : Int32) → Q (some (.int ((if x4 < (x5 * (10 : Int32)) then (x5 * (10 : Int32)) else x4) + x6))) μ))) : wm_Wp 0 23 25 [.ref 62, .int x1, .int x2, .int x3, .int x4, .int x5, .int x6] μ Q := wm_vc mo_23 (rt := some .int) (by decide +kernel) mc_23 74 h
-- WindBoat$Chart.endOfNextStep(IIII)I, the place 44
set_option maxRecDepth 100000 in
set_option maxHeartbeats 8000000 in
theorem f_23_44 (x1 : Int32) (x2 : Int32) (x3 : Int32) (x4 : Int32) (x5 : Int32) (μ : wm_M) (Q : Option Value → wm_M → Prop) (h : wm_Wp 0 23 7 [.ref 62, .int x1, .int x2, .int x3, .int x4, .int (x5 + (1 : Int32)), .null] μ Q) : wm_Wp 0 23 44 [.ref 62, .int x1, .int x2, .int x3, .int x4, .int x5, .null] μ Q := wm_vc mo_23 (rt := some .int) (by decide +kernel) mc_23 74 h
-- WindBoat$Chart.endOfNextStep(IIII)I, the place 50
set_option maxRecDepth 100000 in
set_option maxHeartbeats 8000000 in
theorem f_23_50 (μ : wm_M) (Q : Option Value → wm_M → Prop) (h : Q (some (.int (999 : Int32))) μ) : wm_Wp 0 23 50 [.null, .null, .null, .null, .null, .null, .null] μ Q := wm_vc mo_23 (rt := some .int) (by decide +kernel) mc_23 74 h
-- WindBoat$Chart.soonestEnd(IIII)I
set_option maxRecDepth 100000 in
set_option maxHeartbeats 8000000 in
theorem f_24 (a1 : Int32) (a2 : Int32) (a3 : Int32) (a4 : Int32) (μ : wm_M) (Q : Option Value → wm_M → Prop) (h : wm_OkI 0 180 [.int a4] μ (fun r2 μ1 => wm_Wp 0 24 12 [.ref 62, .int a1, .int a2, .int a3, .int a4, .int (999 : Int32), .int r2, .null, .null] μ1 Q)) : wm_Ok 0 24 [.ref 62, .int a1, .int a2, .int a3, .int a4] μ Q := wm_ent (nL := 9) (l := [.ref 62, .int a1, .int a2, .int a3, .int a4, .null, .null, .null, .null]) (by decide +kernel) (by decide +kernel) (by decide +kernel) rfl rfl (wm_vc mo_24 (rt := some .int) (by decide +kernel) mc_24 94 h)
-- WindBoat$Chart.soonestEnd(IIII)I, the place 12
set_option maxRecDepth 100000 in
set_option maxHeartbeats 8000000 in
theorem f_24_12 (x1 : Int32) (x2 : Int32) (x3 : Int32) (x4 : Int32) (x5 : Int32) (x6 : Int32) (μ : wm_M) (Q : Option Value → wm_M → Prop) (h : (((12 : Int32) ≤ x6 → wm_Wp 0 24 75 [.null, .null, .null, .null, .null, .int x5, .null, .null, .null] μ Q) ∧ (¬ (12 : Int32) ≤ x6 → wm_Wp 0 24 31 [.ref 62, .int x1, .int x2, .int x3, .int x4, .int x5, .int x6, .int (if x4 < (x6 * (10 : Int32)) then (x6 * (10 : Int32)) else x4), .null] μ Q))) : wm_Wp 0 24 12 [.ref 62, .int x1, .int x2, .int x3, .int x4, .int x5, .int x6, .null, .null] μ Q := wm_vc mo_24 (rt := some .int) (by decide +kernel) mc_24 94 h
-- WindBoat$Chart.soonestEnd(IIII)I, the place 31
set_option maxRecDepth 100000 in
set_option maxHeartbeats 8000000 in
theorem f_24_31 (x1 : Int32) (x2 : Int32) (x3 : Int32) (x4 : Int32) (x5 : Int32) (x6 : Int32) (x7 : Int32) (μ : wm_M) (Q : Option Value → wm_M → Prop) (h : ((x7 < x5 → wm_Wp 0 24 41 [.ref 62, .int x1, .int x2, .int x3, .int x4, .int x5, .int x6, .int x7, .null] μ Q) ∧ (¬ x7 < x5 → wm_Wp 0 24 75 [.null, .null, .null, .null, .null, .int x5, .null, .null, .null] μ Q))) : wm_Wp 0 24 31 [.ref 62, .int x1, .int x2, .int x3, .int x4, .int x5, .int x6, .int x7, .null] μ Q := wm_vc mo_24 (rt := some .int) (by decide +kernel) mc_24 94 h
-- WindBoat$Chart.soonestEnd(IIII)I, the place 41
set_option maxRecDepth 100000 in
set_option maxHeartbeats 8000000 in
theorem f_24_41 (x1 : Int32) (x2 : Int32) (x3 : Int32) (x4 : Int32) (x5 : Int32) (x6 : Int32) (x7 : Int32) (μ : wm_M) (Q : Option Value → wm_M → Prop) (h : wm_OkI 0 22 [.ref 62, .int x1, .int x2, .int x3, .int x6] μ (fun r2 μ1 => wm_Wp 0 24 52 [.ref 62, .int x1, .int x2, .int x3, .int x4, .int x5, .int x6, .int x7, .int r2] μ1 Q)) : wm_Wp 0 24 41 [.ref 62, .int x1, .int x2, .int x3, .int x4, .int x5, .int x6, .int x7, .null] μ Q := wm_vc mo_24 (rt := some .int) (by decide +kernel) mc_24 94 h
-- WindBoat$Chart.soonestEnd(IIII)I, the place 52
set_option maxRecDepth 100000 in
set_option maxHeartbeats 8000000 in
theorem f_24_52 (x1 : Int32) (x2 : Int32) (x3 : Int32) (x4 : Int32) (x5 : Int32) (x6 : Int32) (x7 : Int32) (x8 : Int32) (μ : wm_M) (Q : Option Value → wm_M → Prop) (h : ((x8 ≤ (0 : Int32) → wm_Wp 0 24 69 [.ref 62, .int x1, .int x2, .int x3, .int x4, .int x5, .int x6, .null, .null] μ Q) ∧ (¬ x8 ≤ (0 : Int32) → wm_Wp 0 24 69 [.ref 62, .int x1, .int x2, .int x3, .int x4, .int (if (x7 + x8) < x5 then (x7 + x8) else x5), .int x6, .null, .null] μ Q))) : wm_Wp 0 24 52 [.ref 62, .int x1, .int x2, .int x3, .int x4, .int x5, .int x6, .int x7, .int x8] μ Q := wm_vc mo_24 (rt := some .int) (by decide +kernel) mc_24 94 h
-- WindBoat$Chart.soonestEnd(IIII)I, the place 69
set_option maxRecDepth 100000 in
set_option maxHeartbeats 8000000 in
theorem f_24_69 (x1 : Int32) (x2 : Int32) (x3 : Int32) (x4 : Int32) (x5 : Int32) (x6 : Int32) (μ : wm_M) (Q : Option Value → wm_M → Prop) (h : wm_Wp 0 24 12 [.ref 62, .int x1, .int x2, .int x3, .int x4, .int x5, .int (x6 + (1 : Int32)), .null, .null] μ Q) : wm_Wp 0 24 69 [.ref 62, .int x1, .int x2, .int x3, .int x4, .int x5, .int x6, .null, .null] μ Q := wm_vc mo_24 (rt := some .int) (by decide +kernel) mc_24 94 h
-- WindBoat$Chart.soonestEnd(IIII)I, the place 75
set_option maxRecDepth 100000 in
set_option maxHeartbeats 8000000 in
theorem f_24_75 (x5 : Int32) (μ : wm_M) (Q : Option Value → wm_M → Prop) (h : Q (some (.int x5)) μ) : wm_Wp 0 24 75 [.null, .null, .null, .null, .null, .int x5, .null, .null, .null] μ Q := wm_vc mo_24 (rt := some .int) (by decide +kernel) mc_24 94 h
-- WindBoat$Chart.canEndAt(IIIII)Z
set_option maxRecDepth 100000 in
set_option maxHeartbeats 8000000 in
theorem f_25 (a1 : Int32) (a2 : Int32) (a3 : Int32) (a4 : Int32) (a5 : Int32) (μ : wm_M) (Q : Option Value → wm_M → Prop) (h : wm_OkI 0 180 [.int a4] μ (fun r2 μ1 => wm_Wp 0 25 7 [.ref 62, .int a1, .int a2, .int a3, .int a4, .int a5, .int r2, .null, .null] μ1 Q)) : wm_Ok 0 25 [.ref 62, .int a1, .int a2, .int a3, .int a4, .int a5] μ Q := wm_ent (nL := 9) (l := [.ref 62, .int a1, .int a2, .int a3, .int a4, .int a5, .null, .null, .null]) (by decide +kernel) (by decide +kernel) (by decide +kernel) rfl rfl (wm_vc mo_25 (rt := some .boolean) (by decide +kernel) mc_25 84 h)
-- WindBoat$Chart.canEndAt(IIIII)Z, the place 7
set_option maxRecDepth 100000 in
set_option maxHeartbeats 8000000 in
theorem f_25_7 (x1 : Int32) (x2 : Int32) (x3 : Int32) (x4 : Int32) (x5 : Int32) (x6 : Int32) (μ : wm_M) (Q : Option Value → wm_M → Prop) (h : (((12 : Int32) ≤ x6 → wm_Wp 0 25 62 [.null, .null, .null, .null, .null, .null, .null, .null, .null] μ Q) ∧ (¬ (12 : Int32) ≤ x6 → wm_OkI 0 22 [.ref 62, .int x1, .int x2, .int x3, .int x6] μ (fun r2 μ1 => wm_Wp 0 25 25 [.ref 62, .int x1, .int x2, .int x3, .int x4, .int x5, .int x6, .int r2, .null] μ1 Q)))) : wm_Wp 0 25 7 [.ref 62, .int x1, .int x2, .int x3, .int x4, .int x5, .int x6, .null, .null] μ Q := wm_vc mo_25 (rt := some .boolean) (by decide +kernel) mc_25 84 h
-- WindBoat$Chart.canEndAt(IIIII)Z, the place 25
set_option maxRecDepth 100000 in
set_option maxHeartbeats 8000000 in
theorem f_25_25 (x1 : Int32) (x2 : Int32) (x3 : Int32) (x4 : Int32) (x5 : Int32) (x6 : Int32) (x7 : Int32) (μ : wm_M) (Q : Option Value → wm_M → Prop) (h : ((x7 ≤ (0 : Int32) → wm_Wp 0 25 56 [.ref 62, .int x1, .int x2, .int x3, .int x4, .int x5, .int x6, .null, .null] μ Q) ∧ (¬ x7 ≤ (0 : Int32) → (((x5 - x7) < x4 → wm_Wp 0 25 56 [.ref 62, .int x1, .int x2, .int x3, .int x4, .int x5, .int x6, .null, .null] μ Q) ∧ (¬ (x5 - x7) < x4 → wm_OkI 0 180 [.int (x5 - x7)] μ (fun r2 μ1 => ((r2 = x6 → wm_Wp 0 25 54 [.null, .null, .null, .null, .null, .null, .null, .null, .null] μ1 Q) ∧ (¬ r2 = x6 → wm_Wp 0 25 56 [.ref 62, .int x1, .int x2, .int x3, .int x4, .int x5, .int x6, .null, .null] μ1 Q)))))))) : wm_Wp 0 25 25 [.ref 62, .int x1, .int x2, .int x3, .int x4, .int x5, .int x6, .int x7, .null] μ Q := wm_vc mo_25 (rt := some .boolean) (by decide +kernel) mc_25 84 h
-- WindBoat$Chart.canEndAt(IIIII)Z, the place 54
set_option maxRecDepth 100000 in
set_option maxHeartbeats 8000000 in
theorem f_25_54 (μ : wm_M) (Q : Option Value → wm_M → Prop) (h : (((1 : Int32) = 0 ∨ (1 : Int32) = 1) ∧ Q (some (.int (1 : Int32))) μ)) : wm_Wp 0 25 54 [.null, .null, .null, .null, .null, .null, .null, .null, .null] μ Q := wm_vc mo_25 (rt := some .boolean) (by decide +kernel) mc_25 84 h
-- WindBoat$Chart.canEndAt(IIIII)Z, the place 56
set_option maxRecDepth 100000 in
set_option maxHeartbeats 8000000 in
theorem f_25_56 (x1 : Int32) (x2 : Int32) (x3 : Int32) (x4 : Int32) (x5 : Int32) (x6 : Int32) (μ : wm_M) (Q : Option Value → wm_M → Prop) (h : wm_Wp 0 25 7 [.ref 62, .int x1, .int x2, .int x3, .int x4, .int x5, .int (x6 + (1 : Int32)), .null, .null] μ Q) : wm_Wp 0 25 56 [.ref 62, .int x1, .int x2, .int x3, .int x4, .int x5, .int x6, .null, .null] μ Q := wm_vc mo_25 (rt := some .boolean) (by decide +kernel) mc_25 84 h
-- WindBoat$Chart.canEndAt(IIIII)Z, the place 62
set_option maxRecDepth 100000 in
set_option maxHeartbeats 8000000 in
theorem f_25_62 (μ : wm_M) (Q : Option Value → wm_M → Prop) (h : (((0 : Int32) = 0 ∨ (0 : Int32) = 1) ∧ Q (some (.int (0 : Int32))) μ)) : wm_Wp 0 25 62 [.null, .null, .null, .null, .null, .null, .null, .null, .null] μ Q := wm_vc mo_25 (rt := some .boolean) (by decide +kernel) mc_25 84 h
-- WindBoat$Choices.forget()V
set_option maxRecDepth 100000 in
set_option maxHeartbeats 8000000 in
theorem f_27 (μ : wm_M) (Q : Option Value → wm_M → Prop) (h : (((0 : Int32) = 0 ∨ (0 : Int32) = 1) ∧ wm_Wp 0 27 5 [.null] (wm_si μ 75 6 (0 : Int32)) Q)) : wm_Ok 0 27 [.ref 75] μ Q := wm_ent (nL := 1) (l := [.ref 75]) (by decide +kernel) (by decide +kernel) (by decide +kernel) rfl rfl (wm_vc mo_27 (rt := none) (by decide +kernel) mc_27 28 h)
-- WindBoat$Choices.forget()V, the place 5
set_option maxRecDepth 100000 in
set_option maxHeartbeats 8000000 in
theorem f_27_5 (μ : wm_M) (Q : Option Value → wm_M → Prop) (h : Q none μ) : wm_Wp 0 27 5 [.null] μ Q := wm_vc mo_27 (rt := none) (by decide +kernel) mc_27 28 h
-- WindBoat$Choices.comesIn(IIII)I
set_option maxRecDepth 100000 in
set_option maxHeartbeats 8000000 in
theorem f_28 (a1 : Int32) (a2 : Int32) (a3 : Int32) (a4 : Int32) (μ : wm_M) (Q : Option Value → wm_M → Prop) (h : wm_OkV 0 19 [.ref 62, .int a1, .int (1 : Int32)] μ (fun μ1 => wm_Wp 0 28 9 [.ref 75, .null, .int a2, .int a3, .int a4, .null] μ1 Q)) : wm_Ok 0 28 [.ref 75, .int a1, .int a2, .int a3, .int a4] μ Q := wm_ent (nL := 6) (l := [.ref 75, .int a1, .int a2, .int a3, .int a4, .null]) (by decide +kernel) (by decide +kernel) (by decide +kernel) rfl rfl (wm_vc mo_28 (rt := some .int) (by decide +kernel) mc_28 98 h)
-- WindBoat$Choices.comesIn(IIII)I, the place 9
set_option maxRecDepth 100000 in
set_option maxHeartbeats 8000000 in
theorem f_28_9 (x2 : Int32) (x3 : Int32) (x4 : Int32) (μ : wm_M) (Q : Option Value → wm_M → Prop) (h : wm_OkI 0 2 [.ref 13] μ (fun r2 μ1 => (vp_in x2 3 ∧ wm_OkI 0 107 [.ref 69, .int r2, .int (μ1.1 13 4), .int x4, .int (μ1.1 27 (x2).toNatClampNeg)] μ1 (fun r4 μ3 => wm_Wp 0 28 49 [.ref 75, .null, .null, .int x3, .int x4, .int r4] μ3 Q)))) : wm_Wp 0 28 9 [.ref 75, .null, .int x2, .int x3, .int x4, .null] μ Q := wm_vc mo_28 (rt := some .int) (by decide +kernel) mc_28 98 h
-- WindBoat$Choices.comesIn(IIII)I, the place 49
set_option maxRecDepth 100000 in
set_option maxHeartbeats 8000000 in
theorem f_28_49 (x3 : Int32) (x4 : Int32) (x5 : Int32) (μ : wm_M) (Q : Option Value → wm_M → Prop) (h : ((x5 = (-1 : Int32) → Q (some (.int (999 : Int32))) μ) ∧ (¬ x5 = (-1 : Int32) → wm_Wp 0 28 61 [.ref 75, .null, .null, .int x3, .int x4, .int x5] μ Q))) : wm_Wp 0 28 49 [.ref 75, .null, .null, .int x3, .int x4, .int x5] μ Q := wm_vc mo_28 (rt := some .int) (by decide +kernel) mc_28 98 h
-- WindBoat$Choices.comesIn(IIII)I, the place 61
set_option maxRecDepth 100000 in
set_option maxHeartbeats 8000000 in
theorem f_28_61 (x3 : Int32) (x4 : Int32) (x5 : Int32) (μ : wm_M) (Q : Option Value → wm_M → Prop) (h : (vp_in x5 864 ∧ wm_OkI 0 29 [.ref 75, .int x5, .int (μ.1 70 (x5).toNatClampNeg), .int x3, .int x4] μ (fun r2 μ1 => Q (some (.int r2)) μ1))) : wm_Wp 0 28 61 [.ref 75, .null, .null, .int x3, .int x4, .int x5] μ Q := wm_vc mo_28 (rt := some .int) (by decide +kernel) mc_28 98 h
-- WindBoat$Choices.comesFrom(IIII)I
set_option maxRecDepth 100000 in
set_option maxHeartbeats 8000000 in
theorem f_29 (a1 : Int32) (a2 : Int32) (a3 : Int32) (a4 : Int32) (μ : wm_M) (Q : Option Value → wm_M → Prop) (h : wm_Wp 0 29 13 [.ref 75, .int a1, .null, .int a3, .int a4, .int (if a2 < (μ.1 1 4) then (μ.1 1 4) else a2), .null] μ Q) : wm_Ok 0 29 [.ref 75, .int a1, .int a2, .int a3, .int a4] μ Q := wm_ent (nL := 7) (l := [.ref 75, .int a1, .int a2, .int a3, .int a4, .null, .null]) (by decide +kernel) (by decide +kernel) (by decide +kernel) rfl rfl (wm_vc mo_29 (rt := some .int) (by decide +kernel) mc_29 130 h)
-- WindBoat$Choices.comesFrom(IIII)I, the place 13
set_option maxRecDepth 100000 in
set_option maxHeartbeats 8000000 in
theorem f_29_13 (x1 : Int32) (x3 : Int32) (x4 : Int32) (x5 : Int32) (μ : wm_M) (Q : Option Value → wm_M → Prop) (h : (vp_in x3 3 ∧ wm_OkI 0 107 [.ref 69, .int x1, .int x5, .int x4, .int (μ.1 27 (x3).toNatClampNeg)] μ (fun r2 μ1 => wm_Wp 0 29 36 [.ref 75, .null, .null, .null, .int x4, .null, .int r2] μ1 Q))) : wm_Wp 0 29 13 [.ref 75, .int x1, .null, .int x3, .int x4, .int x5, .null] μ Q := wm_vc mo_29 (rt := some .int) (by decide +kernel) mc_29 130 h
-- WindBoat$Choices.comesFrom(IIII)I, the place 36
set_option maxRecDepth 100000 in
set_option maxHeartbeats 8000000 in
theorem f_29_36 (x4 : Int32) (x6 : Int32) (μ : wm_M) (Q : Option Value → wm_M → Prop) (h : ((x6 = (-1 : Int32) → Q (some (.int (999 : Int32))) μ) ∧ (¬ x6 = (-1 : Int32) → wm_Wp 0 29 46 [.ref 75, .null, .null, .null, .int x4, .null, .int x6] μ Q))) : wm_Wp 0 29 36 [.ref 75, .null, .null, .null, .int x4, .null, .int x6] μ Q := wm_vc mo_29 (rt := some .int) (by decide +kernel) mc_29 130 h
-- WindBoat$Choices.comesFrom(IIII)I, the place 46
set_option maxRecDepth 100000 in
set_option maxHeartbeats 8000000 in
theorem f_29_46 (x4 : Int32) (x6 : Int32) (μ : wm_M) (Q : Option Value → wm_M → Prop) (h : (vp_in x6 864 ∧ wm_Wp 0 29 68 [.ref 75, .null, .null, .null, .int x4, .int (if (μ.1 70 (x6).toNatClampNeg) < (μ.1 1 5) then (μ.1 1 5) else (μ.1 70 (x6).toNatClampNeg)), .int x6] μ Q)) : wm_Wp 0 29 46 [.ref 75, .null, .null, .null, .int x4, .null, .int x6] μ Q := wm_vc mo_29 (rt := some .int) (by decide +kernel) mc_29 130 h
-- WindBoat$Choices.comesFrom(IIII)I, the place 68
set_option maxRecDepth 100000 in
set_option maxHeartbeats 8000000 in
theorem f_29_68 (x4 : Int32) (x5 : Int32) (x6 : Int32) (μ : wm_M) (Q : Option Value → wm_M → Prop) (h : wm_OkI 0 107 [.ref 69, .int x6, .int x5, .int x4, .int (μ.1 2 4)] μ (fun r2 μ1 => wm_Wp 0 29 93 [.ref 75, .null, .null, .null, .null, .null, .int r2] μ1 Q)) : wm_Wp 0 29 68 [.ref 75, .null, .null, .null, .int x4, .int x5, .int x6] μ Q := wm_vc mo_29 (rt := some .int) (by decide +kernel) mc_29 130 h
-- WindBoat$Choices.comesFrom(IIII)I, the place 93
set_option maxRecDepth 100000 in
set_option maxHeartbeats 8000000 in
theorem f_29_93 (x6 : Int32) (μ : wm_M) (Q : Option Value → wm_M → Prop) (h : ((x6 = (-1 : Int32) → Q (some (.int (999 : Int32))) μ) ∧ (¬ x6 = (-1 : Int32) → wm_Wp 0 29 105 [.ref 75, .null, .null, .null, .null, .null, .int x6] μ Q))) : wm_Wp 0 29 93 [.ref 75, .null, .null, .null, .null, .null, .int x6] μ Q := wm_vc mo_29 (rt := some .int) (by decide +kernel) mc_29 130 h
-- WindBoat$Choices.comesFrom(IIII)I, the place 105
set_option maxRecDepth 100000 in
set_option maxHeartbeats 8000000 in
theorem f_29_105 (x6 : Int32) (μ : wm_M) (Q : Option Value → wm_M → Prop) (h : (vp_in x6 864 ∧ Q (some (.int (μ.1 70 (x6).toNatClampNeg))) μ)) : wm_Wp 0 29 105 [.ref 75, .null, .null, .null, .null, .null, .int x6] μ Q := wm_vc mo_29 (rt := some .int) (by decide +kernel) mc_29 130 h
-- WindBoat$Choices.workOut(I)V
set_option maxRecDepth 100000 in
set_option maxHeartbeats 8000000 in
theorem f_30 (a1 : Int32) (μ : wm_M) (Q : Option Value → wm_M → Prop) (h : (((μ.1 75 6) = (0 : Int32) → wm_Wp 0 30 8 [.ref 75, .int a1, .null] μ Q) ∧ (¬ (μ.1 75 6) = (0 : Int32) → Q none μ))) : wm_Ok 0 30 [.ref 75, .int a1] μ Q := wm_ent (nL := 3) (l := [.ref 75, .int a1, .null]) (by decide +kernel) (by decide +kernel) (by decide +kernel) rfl rfl (wm_vc mo_30 (rt := none) (by decide +kernel) mc_30 70 h)
-- WindBoat$Choices.workOut(I)V, the place 8
set_option maxRecDepth 100000 in
set_option maxHeartbeats 8000000 in
theorem f_30_8 (x1 : Int32) (μ : wm_M) (Q : Option Value → wm_M → Prop) (h : wm_Wp 0 30 10 [.ref 75, .int x1, .int (0 : Int32)] μ Q) : wm_Wp 0 30 8 [.ref 75, .int x1, .null] μ Q := wm_vc mo_30 (rt := none) (by decide +kernel) mc_30 70 h
-- WindBoat$Choices.workOut(I)V, the place 10
set_option maxRecDepth 100000 in
set_option maxHeartbeats 8000000 in
theorem f_30_10 (x1 : Int32) (x2 : Int32) (μ : wm_M) (Q : Option Value → wm_M → Prop) (h : (((6 : Int32) ≤ x2 → wm_Wp 0 30 42 [.ref 75, .null, .null] μ Q) ∧ (¬ (6 : Int32) ≤ x2 → wm_OkI 0 76 [.ref 2, .int x2] μ (fun r2 μ1 => ((r2 = (0 : Int32) → wm_Wp 0 30 36 [.ref 75, .int x1, .int x2] μ1 Q) ∧ (¬ r2 = (0 : Int32) → wm_Wp 0 30 30 [.ref 75, .int x1, .int x2] μ1 Q)))))) : wm_Wp 0 30 10 [.ref 75, .int x1, .int x2] μ Q := wm_vc mo_30 (rt := none) (by decide +kernel) mc_30 70 h
-- WindBoat$Choices.workOut(I)V, the place 30
set_option maxRecDepth 100000 in
set_option maxHeartbeats 8000000 in
theorem f_30_30 (x1 : Int32) (x2 : Int32) (μ : wm_M) (Q : Option Value → wm_M → Prop) (h : wm_OkV 0 31 [.ref 75, .int x2, .int x1] μ (fun μ1 => wm_Wp 0 30 36 [.ref 75, .int x1, .int x2] μ1 Q)) : wm_Wp 0 30 30 [.ref 75, .int x1, .int x2] μ Q := wm_vc mo_30 (rt := none) (by decide +kernel) mc_30 70 h
-- WindBoat$Choices.workOut(I)V, the place 36
set_option maxRecDepth 100000 in
set_option maxHeartbeats 8000000 in
theorem f_30_36 (x1 : Int32) (x2 : Int32) (μ : wm_M) (Q : Option Value → wm_M → Prop) (h : wm_Wp 0 30 10 [.ref 75, .int x1, .int (x2 + (1 : Int32))] μ Q) : wm_Wp 0 30 36 [.ref 75, .int x1, .int x2] μ Q := wm_vc mo_30 (rt := none) (by decide +kernel) mc_30 70 h
-- WindBoat$Choices.workOut(I)V, the place 42
set_option maxRecDepth 100000 in
set_option maxHeartbeats 8000000 in
theorem f_30_42 (μ : wm_M) (Q : Option Value → wm_M → Prop) (h : (((1 : Int32) = 0 ∨ (1 : Int32) = 1) ∧ wm_Wp 0 30 47 [.null, .null, .null] (wm_si μ 75 6 (1 : Int32)) Q)) : wm_Wp 0 30 42 [.ref 75, .null, .null] μ Q := wm_vc mo_30 (rt := none) (by decide +kernel) mc_30 70 h
-- WindBoat$Choices.workOut(I)V, the place 47
set_option maxRecDepth 100000 in
set_option maxHeartbeats 8000000 in
theorem f_30_47 (μ : wm_M) (Q : Option Value → wm_M → Prop) (h : Q none μ) : wm_Wp 0 30 47 [.null, .null, .null] μ Q := wm_vc mo_30 (rt := none) (by decide +kernel) mc_30 70 h
-- WindBoat$Choices.workOutIn(II)V
set_option maxRecDepth 100000 in
set_option maxHeartbeats 8000000 in
theorem f_31 (a1 : Int32) (a2 : Int32) (μ : wm_M) (Q : Option Value → wm_M → Prop) (h : wm_OkV 0 19 [.ref 62, .int a1, .int (1 : Int32)] μ (fun μ1 => wm_Wp 0 31 17 [.ref 75, .int a1, .int a2, .ref 13, .null, .null, .null, .null, .null] μ1 Q)) : wm_Ok 0 31 [.ref 75, .int a1, .int a2] μ Q := wm_ent (nL := 9) (l := [.ref 75, .int a1, .int a2, .null, .null, .null, .null, .null, .null]) (by decide +kernel) (by decide +kernel) (by decide +kernel) rfl rfl (wm_vc mo_31 (rt := none) (by decide +kernel) mc_31 226 h)
-- WindBoat$Choices.workOutIn(II)V, the place 17
set_option maxRecDepth 100000 in
set_option maxHeartbeats 8000000 in
theorem f_31_17 (x1 : Int32) (x2 : Int32) (μ : wm_M) (Q : Option Value → wm_M → Prop) (h : wm_OkI 0 81 [.ref 2, .int x1] μ (fun r2 μ1 => (vp_in x1 6 ∧ wm_Wp 0 31 34 [.ref 75, .int x1, .int x2, .ref 13, .null, .null, .null, .null, .null] (wm_si μ1 78 (x1).toNatClampNeg r2) Q))) : wm_Wp 0 31 17 [.ref 75, .int x1, .int x2, .ref 13, .null, .null, .null, .null, .null] μ Q := wm_vc mo_31 (rt := none) (by decide +kernel) mc_31 226 h
-- WindBoat$Choices.workOutIn(II)V, the place 34
set_option maxRecDepth 100000 in
set_option maxHeartbeats 8000000 in
theorem f_31_34 (x1 : Int32) (x2 : Int32) (μ : wm_M) (Q : Option Value → wm_M → Prop) (h : wm_OkI 0 2 [.ref 13] μ (fun r2 μ1 => wm_OkI 0 107 [.ref 69, .int r2, .int (μ1.1 13 4), .int x2, .int (μ1.1 2 4)] μ1 (fun r4 μ3 => wm_Wp 0 31 62 [.ref 75, .int x1, .int x2, .ref 13, .int r4, .null, .null, .null, .null] μ3 Q))) : wm_Wp 0 31 34 [.ref 75, .int x1, .int x2, .ref 13, .null, .null, .null, .null, .null] μ Q := wm_vc mo_31 (rt := none) (by decide +kernel) mc_31 226 h
-- WindBoat$Choices.workOutIn(II)V, the place 62
set_option maxRecDepth 100000 in
set_option maxHeartbeats 8000000 in
theorem f_31_62 (x1 : Int32) (x2 : Int32) (x4 : Int32) (μ : wm_M) (Q : Option Value → wm_M → Prop) (h : ((x4 = (-1 : Int32) → (vp_in x1 6 ∧ wm_Wp 0 31 90 [.ref 75, .int x1, .int x2, .ref 13, .null, .null, .null, .null, .null] (wm_si μ 77 (x1).toNatClampNeg (999 : Int32)) Q)) ∧ (¬ x4 = (-1 : Int32) → (vp_in x4 864 ∧ (vp_in x1 6 ∧ wm_Wp 0 31 90 [.ref 75, .int x1, .int x2, .ref 13, .null, .null, .null, .null, .null] (wm_si μ 77 (x1).toNatClampNeg (μ.1 70 (x4).toNatClampNeg)) Q))))) : wm_Wp 0 31 62 [.ref 75, .int x1, .int x2, .ref 13, .int x4, .null, .null, .null, .null] μ Q := wm_vc mo_31 (rt := none) (by decide +kernel) mc_31 226 h
-- WindBoat$Choices.workOutIn(II)V, the place 90
set_option maxRecDepth 100000 in
set_option maxHeartbeats 8000000 in
theorem f_31_90 (x1 : Int32) (x2 : Int32) (μ : wm_M) (Q : Option Value → wm_M → Prop) (h : wm_Wp 0 31 93 [.ref 75, .int x1, .int x2, .ref 13, .null, .int (0 : Int32), .null, .null, .null] μ Q) : wm_Wp 0 31 90 [.ref 75, .int x1, .int x2, .ref 13, .null, .null, .null, .null, .null] μ Q := wm_vc mo_31 (rt := none) (by decide +kernel) mc_31 226 h
-- WindBoat$Choices.workOutIn(II)V, the place 93
set_option maxRecDepth 100000 in
set_option maxHeartbeats 8000000 in
theorem f_31_93 (x1 : Int32) (x2 : Int32) (x5 : Int32) (μ : wm_M) (Q : Option Value → wm_M → Prop) (h : (((3 : Int32) ≤ x5 → wm_Wp 0 31 208 [.null, .null, .null, .null, .null, .null, .null, .null, .null] μ Q) ∧ (¬ (3 : Int32) ≤ x5 → wm_OkI 0 2 [.ref 13] μ (fun r2 μ1 => (vp_in x5 3 ∧ wm_OkI 0 107 [.ref 69, .int r2, .int (μ1.1 13 4), .int x2, .int (μ1.1 27 (x5).toNatClampNeg)] μ1 (fun r4 μ3 => wm_Wp 0 31 127 [.ref 75, .int x1, .int x2, .ref 13, .null, .int x5, .int r4, .null, .null] μ3 Q)))))) : wm_Wp 0 31 93 [.ref 75, .int x1, .int x2, .ref 13, .null, .int x5, .null, .null, .null] μ Q := wm_vc mo_31 (rt := none) (by decide +kernel) mc_31 226 h
-- WindBoat$Choices.workOutIn(II)V, the place 127
set_option maxRecDepth 100000 in
set_option maxHeartbeats 8000000 in
theorem f_31_127 (x1 : Int32) (x2 : Int32) (x5 : Int32) (x6 : Int32) (μ : wm_M) (Q : Option Value → wm_M → Prop) (h : ((x6 = (-1 : Int32) → wm_Wp 0 31 154 [.ref 75, .int x1, .int x2, .ref 13, .null, .int x5, .int x6, .int (999 : Int32), .int (0 : Int32)] μ Q) ∧ (¬ x6 = (-1 : Int32) → wm_Wp 0 31 139 [.ref 75, .int x1, .int x2, .ref 13, .null, .int x5, .int x6, .null, .null] μ Q))) : wm_Wp 0 31 127 [.ref 75, .int x1, .int x2, .ref 13, .null, .int x5, .int x6, .null, .null] μ Q := wm_vc mo_31 (rt := none) (by decide +kernel) mc_31 226 h
-- WindBoat$Choices.workOutIn(II)V, the place 139
set_option maxRecDepth 100000 in
set_option maxHeartbeats 8000000 in
theorem f_31_139 (x1 : Int32) (x2 : Int32) (x5 : Int32) (x6 : Int32) (μ : wm_M) (Q : Option Value → wm_M → Prop) (h : (vp_in x6 864 ∧ wm_Wp 0 31 154 [.ref 75, .int x1, .int x2, .ref 13, .null, .int x5, .int x6, .int (μ.1 70 (x6).toNatClampNeg), .int (0 : Int32)] μ Q)) : wm_Wp 0 31 139 [.ref 75, .int x1, .int x2, .ref 13, .null, .int x5, .int x6, .null, .null] μ Q := wm_vc mo_31 (rt := none) (by decide +kernel) mc_31 226 h
-- WindBoat$Choices.workOutIn(II)V, the place 154
set_option maxRecDepth 100000 in
set_option maxHeartbeats 8000000 in
theorem f_31_154 (x1 : Int32) (x2 : Int32) (x5 : Int32) (x6 : Int32) (x7 : Int32) (x8 : Int32) (μ : wm_M) (Q : Option Value → wm_M → Prop) (h : (((3 : Int32) ≤ x8 → wm_Wp 0 31 202 [.ref 75, .int x1, .int x2, .ref 13, .null, .int x5, .null, .null, .null] μ Q) ∧ (¬ (3 : Int32) ≤ x8 → wm_OkI 0 32 [.int x1, .int x5, .int x8] μ (fun r2 μ1 => ((x6 = (-1 : Int32) → (vp_in r2 54 ∧ wm_Wp 0 31 196 [.ref 75, .int x1, .int x2, .ref 13, .null, .int x5, .int x6, .int x7, .int x8] (wm_si μ1 76 (r2).toNatClampNeg (999 : Int32)) Q)) ∧ (¬ x6 = (-1 : Int32) → wm_OkI 0 29 [.ref 75, .int x6, .int x7, .int x8, .int x2] μ1 (fun r4 μ3 => (vp_in r2 54 ∧ wm_Wp 0 31 196 [.ref 75, .int x1, .int x2, .ref 13, .null, .int x5, .int x6, .int x7, .int x8] (wm_si μ3 76 (r2).toNatClampNeg r4) Q)))))))) : wm_Wp 0 31 154 [.ref 75, .int x1, .int x2, .ref 13, .null, .int x5, .int x6, .int x7, .int x8] μ Q := wm_vc mo_31 (rt := none) (by decide +kernel) mc_31 226 h
-- WindBoat$Choices.workOutIn(II)V, the place 196
set_option maxRecDepth 100000 in
set_option maxHeartbeats 8000000 in
theorem f_31_196 (x1 : Int32) (x2 : Int32) (x5 : Int32) (x6 : Int32) (x7 : Int32) (x8 : Int32) (μ : wm_M) (Q : Option Value → wm_M → Prop) (h : wm_Wp 0 31 154 [.ref 75, .int x1, .int x2, .ref 13, .null, .int x5, .int x6, .int x7, .int (x8 + (1 : Int32))] μ Q) : wm_Wp 0 31 196 [.ref 75, .int x1, .int x2, .ref 13, .null, .int x5, .int x6, .int x7, .int x8] μ Q := wm_vc mo_31 (rt := none) (by decide +kernel) mc_31 226 h
-- WindBoat$Choices.workOutIn(II)V, the place 202
set_option maxRecDepth 100000 in
set_option maxHeartbeats 8000000 in
theorem f_31_202 (x1 : Int32) (x2 : Int32) (x5 : Int32) (μ : wm_M) (Q : Option Value → wm_M → Prop) (h : wm_Wp 0 31 93 [.ref 75, .int x1, .int x2, .ref 13, .null, .int (x5 + (1 : Int32)), .null, .null, .null] μ Q) : wm_Wp 0 31 202 [.ref 75, .int x1, .int x2, .ref 13, .null, .int x5, .null, .null, .null] μ Q := wm_vc mo_31 (rt := none) (by decide +kernel) mc_31 226 h
-- WindBoat$Choices.workOutIn(II)V, the place 208
set_option maxRecDepth 100000 in
set_option maxHeartbeats 8000000 in
theorem f_31_208 (μ : wm_M) (Q : Option Value → wm_M → Prop) (h : Q none μ) : wm_Wp 0 31 208 [.null, .null, .null, .null, .null, .null, .null, .null, .null] μ Q := wm_vc mo_31 (rt := none) (by decide +kernel) mc_31 226 h
