/-! ===== what each block of code asks (printed by wip/gen/genvc.py) ===== -/
-- WindBoat$Tape.readComparison(I)Z
set_option maxRecDepth 100000 in
set_option maxHeartbeats 8000000 in
theorem f_100 {e : Nat} (a1 : Int32) (μ : wm_M) (Q : Option Value → wm_M → Prop) (h : wm_OkI e 101 [.ref 59, .int a1] μ (fun r2 μ1 => ((r2 = (0 : Int32) → wm_Wp e 100 8 [.null, .null, .null] μ1 Q) ∧ (¬ r2 = (0 : Int32) → wm_Wp e 100 10 [.ref 59, .int a1, .null] μ1 Q)))) : wm_Ok e 100 [.ref 59, .int a1] μ Q := wm_ent (nL := 3) (l := [.ref 59, .int a1, .null]) (by decide +kernel) (by decide +kernel) (by decide +kernel) rfl rfl (wm_vc mo_100 (rt := some .boolean) (by decide +kernel) mc_100 90 h)
-- WindBoat$Tape.readComparison(I)Z, the place 8
set_option maxRecDepth 100000 in
set_option maxHeartbeats 8000000 in
theorem f_100_8 {e : Nat} (μ : wm_M) (Q : Option Value → wm_M → Prop) (h : (((0 : Int32) = 0 ∨ (0 : Int32) = 1) ∧ Q (some (.int (0 : Int32))) μ)) : wm_Wp e 100 8 [.null, .null, .null] μ Q := wm_vc mo_100 (rt := some .boolean) (by decide +kernel) mc_100 90 h
-- WindBoat$Tape.readComparison(I)Z, the place 10
set_option maxRecDepth 100000 in
set_option maxHeartbeats 8000000 in
theorem f_100_10 {e : Nat} (x1 : Int32) (μ : wm_M) (Q : Option Value → wm_M → Prop) (h : (((μ.1 59 8) = (61 : Int32) → wm_Wp e 100 35 [.ref 59, .int x1, .int (μ.1 59 8)] μ Q) ∧ (¬ (μ.1 59 8) = (61 : Int32) → (((μ.1 59 8) = (60 : Int32) → wm_Wp e 100 35 [.ref 59, .int x1, .int (μ.1 59 8)] μ Q) ∧ (¬ (μ.1 59 8) = (60 : Int32) → (((μ.1 59 8) = (62 : Int32) → wm_Wp e 100 35 [.ref 59, .int x1, .int (μ.1 59 8)] μ Q) ∧ (¬ (μ.1 59 8) = (62 : Int32) → wm_Wp e 100 33 [.null, .null, .null] μ Q))))))) : wm_Wp e 100 10 [.ref 59, .int x1, .null] μ Q := wm_vc mo_100 (rt := some .boolean) (by decide +kernel) mc_100 90 h
-- WindBoat$Tape.readComparison(I)Z, the place 33
set_option maxRecDepth 100000 in
set_option maxHeartbeats 8000000 in
theorem f_100_33 {e : Nat} (μ : wm_M) (Q : Option Value → wm_M → Prop) (h : (((1 : Int32) = 0 ∨ (1 : Int32) = 1) ∧ Q (some (.int (1 : Int32))) μ)) : wm_Wp e 100 33 [.null, .null, .null] μ Q := wm_vc mo_100 (rt := some .boolean) (by decide +kernel) mc_100 90 h
-- WindBoat$Tape.readComparison(I)Z, the place 35
set_option maxRecDepth 100000 in
set_option maxHeartbeats 8000000 in
theorem f_100_35 {e : Nat} (x1 : Int32) (x2 : Int32) (μ : wm_M) (Q : Option Value → wm_M → Prop) (h : wm_OkV 0 90 [.ref 59] μ (fun μ1 => wm_Wp e 100 39 [.ref 59, .int x1, .int x2] μ1 Q)) : wm_Wp e 100 35 [.ref 59, .int x1, .int x2] μ Q := wm_vc mo_100 (rt := some .boolean) (by decide +kernel) mc_100 90 h
-- WindBoat$Tape.readComparison(I)Z, the place 39
set_option maxRecDepth 100000 in
set_option maxHeartbeats 8000000 in
theorem f_100_39 {e : Nat} (x1 : Int32) (x2 : Int32) (μ : wm_M) (Q : Option Value → wm_M → Prop) (h : wm_OkI e 101 [.ref 59, .int x1] μ (fun r2 μ1 => ((r2 = (0 : Int32) → wm_Wp e 100 47 [.null, .null, .null] μ1 Q) ∧ (¬ r2 = (0 : Int32) → wm_Wp e 100 49 [.ref 59, .null, .int x2] μ1 Q)))) : wm_Wp e 100 39 [.ref 59, .int x1, .int x2] μ Q := wm_vc mo_100 (rt := some .boolean) (by decide +kernel) mc_100 90 h
-- WindBoat$Tape.readComparison(I)Z, the place 47
set_option maxRecDepth 100000 in
set_option maxHeartbeats 8000000 in
theorem f_100_47 {e : Nat} (μ : wm_M) (Q : Option Value → wm_M → Prop) (h : (((0 : Int32) = 0 ∨ (0 : Int32) = 1) ∧ Q (some (.int (0 : Int32))) μ)) : wm_Wp e 100 47 [.null, .null, .null] μ Q := wm_vc mo_100 (rt := some .boolean) (by decide +kernel) mc_100 90 h
-- WindBoat$Tape.readComparison(I)Z, the place 49
set_option maxRecDepth 100000 in
set_option maxHeartbeats 8000000 in
theorem f_100_49 {e : Nat} (x2 : Int32) (μ : wm_M) (Q : Option Value → wm_M → Prop) (h : wm_OkV 0 96 [.ref 59, .int ((-100 : Int32) - x2)] μ (fun μ1 => wm_Wp e 100 57 [.null, .null, .null] μ1 Q)) : wm_Wp e 100 49 [.ref 59, .null, .int x2] μ Q := wm_vc mo_100 (rt := some .boolean) (by decide +kernel) mc_100 90 h
-- WindBoat$Tape.readComparison(I)Z, the place 57
set_option maxRecDepth 100000 in
set_option maxHeartbeats 8000000 in
theorem f_100_57 {e : Nat} (μ : wm_M) (Q : Option Value → wm_M → Prop) (h : (((1 : Int32) = 0 ∨ (1 : Int32) = 1) ∧ Q (some (.int (1 : Int32))) μ)) : wm_Wp e 100 57 [.null, .null, .null] μ Q := wm_vc mo_100 (rt := some .boolean) (by decide +kernel) mc_100 90 h
-- WindBoat$Tape.readSum(I)Z
set_option maxRecDepth 100000 in
set_option maxHeartbeats 8000000 in
theorem f_101 {e : Nat} (a1 : Int32) (μ : wm_M) (Q : Option Value → wm_M → Prop) (h : wm_OkI e 102 [.ref 59, .int a1] μ (fun r2 μ1 => ((r2 = (0 : Int32) → wm_Wp e 101 8 [.null, .null, .null, .null] μ1 Q) ∧ (¬ r2 = (0 : Int32) → wm_Wp e 101 10 [.ref 59, .int a1, .null, .null] μ1 Q)))) : wm_Ok e 101 [.ref 59, .int a1] μ Q := wm_ent (nL := 4) (l := [.ref 59, .int a1, .null, .null]) (by decide +kernel) (by decide +kernel) (by decide +kernel) rfl rfl (wm_vc mo_101 (rt := some .boolean) (by decide +kernel) mc_101 98 h)
-- WindBoat$Tape.readSum(I)Z, the place 8
set_option maxRecDepth 100000 in
set_option maxHeartbeats 8000000 in
theorem f_101_8 {e : Nat} (μ : wm_M) (Q : Option Value → wm_M → Prop) (h : (((0 : Int32) = 0 ∨ (0 : Int32) = 1) ∧ Q (some (.int (0 : Int32))) μ)) : wm_Wp e 101 8 [.null, .null, .null, .null] μ Q := wm_vc mo_101 (rt := some .boolean) (by decide +kernel) mc_101 98 h
-- WindBoat$Tape.readSum(I)Z, the place 10
set_option maxRecDepth 100000 in
set_option maxHeartbeats 8000000 in
theorem f_101_10 {e : Nat} (x1 : Int32) (μ : wm_M) (Q : Option Value → wm_M → Prop) (h : wm_Wp e 101 12 [.ref 59, .int x1, .int (0 : Int32), .null] μ Q) : wm_Wp e 101 10 [.ref 59, .int x1, .null, .null] μ Q := wm_vc mo_101 (rt := some .boolean) (by decide +kernel) mc_101 98 h
-- WindBoat$Tape.readSum(I)Z, the place 12
set_option maxRecDepth 100000 in
set_option maxHeartbeats 8000000 in
theorem f_101_12 {e : Nat} (x1 : Int32) (x2 : Int32) (μ : wm_M) (Q : Option Value → wm_M → Prop) (h : (((120 : Int32) ≤ x2 → wm_Wp e 101 69 [.null, .null, .null, .null] μ Q) ∧ (¬ (120 : Int32) ≤ x2 → (((μ.1 59 8) = (43 : Int32) → wm_Wp e 101 36 [.ref 59, .int x1, .int x2, .null] μ Q) ∧ (¬ (μ.1 59 8) = (43 : Int32) → (((μ.1 59 8) = (45 : Int32) → wm_Wp e 101 36 [.ref 59, .int x1, .int x2, .null] μ Q) ∧ (¬ (μ.1 59 8) = (45 : Int32) → wm_Wp e 101 69 [.null, .null, .null, .null] μ Q))))))) : wm_Wp e 101 12 [.ref 59, .int x1, .int x2, .null] μ Q := wm_vc mo_101 (rt := some .boolean) (by decide +kernel) mc_101 98 h
-- WindBoat$Tape.readSum(I)Z, the place 36
set_option maxRecDepth 100000 in
set_option maxHeartbeats 8000000 in
theorem f_101_36 {e : Nat} (x1 : Int32) (x2 : Int32) (μ : wm_M) (Q : Option Value → wm_M → Prop) (h : wm_OkV 0 90 [.ref 59] μ (fun μ1 => wm_Wp e 101 45 [.ref 59, .int x1, .int x2, .int (μ.1 59 8)] μ1 Q)) : wm_Wp e 101 36 [.ref 59, .int x1, .int x2, .null] μ Q := wm_vc mo_101 (rt := some .boolean) (by decide +kernel) mc_101 98 h
-- WindBoat$Tape.readSum(I)Z, the place 45
set_option maxRecDepth 100000 in
set_option maxHeartbeats 8000000 in
theorem f_101_45 {e : Nat} (x1 : Int32) (x2 : Int32) (x3 : Int32) (μ : wm_M) (Q : Option Value → wm_M → Prop) (h : wm_OkI e 102 [.ref 59, .int x1] μ (fun r2 μ1 => ((r2 = (0 : Int32) → wm_Wp e 101 53 [.null, .null, .null, .null] μ1 Q) ∧ (¬ r2 = (0 : Int32) → wm_Wp e 101 55 [.ref 59, .int x1, .int x2, .int x3] μ1 Q)))) : wm_Wp e 101 45 [.ref 59, .int x1, .int x2, .int x3] μ Q := wm_vc mo_101 (rt := some .boolean) (by decide +kernel) mc_101 98 h
-- WindBoat$Tape.readSum(I)Z, the place 53
set_option maxRecDepth 100000 in
set_option maxHeartbeats 8000000 in
theorem f_101_53 {e : Nat} (μ : wm_M) (Q : Option Value → wm_M → Prop) (h : (((0 : Int32) = 0 ∨ (0 : Int32) = 1) ∧ Q (some (.int (0 : Int32))) μ)) : wm_Wp e 101 53 [.null, .null, .null, .null] μ Q := wm_vc mo_101 (rt := some .boolean) (by decide +kernel) mc_101 98 h
-- WindBoat$Tape.readSum(I)Z, the place 55
set_option maxRecDepth 100000 in
set_option maxHeartbeats 8000000 in
theorem f_101_55 {e : Nat} (x1 : Int32) (x2 : Int32) (x3 : Int32) (μ : wm_M) (Q : Option Value → wm_M → Prop) (h : wm_OkV 0 96 [.ref 59, .int ((-100 : Int32) - x3)] μ (fun μ1 => wm_Wp e 101 63 [.ref 59, .int x1, .int x2, .null] μ1 Q)) : wm_Wp e 101 55 [.ref 59, .int x1, .int x2, .int x3] μ Q := wm_vc mo_101 (rt := some .boolean) (by decide +kernel) mc_101 98 h
-- WindBoat$Tape.readSum(I)Z, the place 63
set_option maxRecDepth 100000 in
set_option maxHeartbeats 8000000 in
theorem f_101_63 {e : Nat} (x1 : Int32) (x2 : Int32) (μ : wm_M) (Q : Option Value → wm_M → Prop) (h : wm_Wp e 101 12 [.ref 59, .int x1, .int (x2 + (1 : Int32)), .null] μ Q) : wm_Wp e 101 63 [.ref 59, .int x1, .int x2, .null] μ Q := wm_vc mo_101 (rt := some .boolean) (by decide +kernel) mc_101 98 h
-- WindBoat$Tape.readSum(I)Z, the place 69
set_option maxRecDepth 100000 in
set_option maxHeartbeats 8000000 in
theorem f_101_69 {e : Nat} (μ : wm_M) (Q : Option Value → wm_M → Prop) (h : (((1 : Int32) = 0 ∨ (1 : Int32) = 1) ∧ Q (some (.int (1 : Int32))) μ)) : wm_Wp e 101 69 [.null, .null, .null, .null] μ Q := wm_vc mo_101 (rt := some .boolean) (by decide +kernel) mc_101 98 h
-- WindBoat$Tape.readTerm(I)Z
set_option maxRecDepth 100000 in
set_option maxHeartbeats 8000000 in
theorem f_102 {e : Nat} (a1 : Int32) (μ : wm_M) (Q : Option Value → wm_M → Prop) (h : wm_OkI e 103 [.ref 59, .int a1] μ (fun r2 μ1 => ((r2 = (0 : Int32) → wm_Wp e 102 8 [.null, .null, .null, .null] μ1 Q) ∧ (¬ r2 = (0 : Int32) → wm_Wp e 102 10 [.ref 59, .int a1, .null, .null] μ1 Q)))) : wm_Ok e 102 [.ref 59, .int a1] μ Q := wm_ent (nL := 4) (l := [.ref 59, .int a1, .null, .null]) (by decide +kernel) (by decide +kernel) (by decide +kernel) rfl rfl (wm_vc mo_102 (rt := some .boolean) (by decide +kernel) mc_102 106 h)
-- WindBoat$Tape.readTerm(I)Z, the place 8
set_option maxRecDepth 100000 in
set_option maxHeartbeats 8000000 in
theorem f_102_8 {e : Nat} (μ : wm_M) (Q : Option Value → wm_M → Prop) (h : (((0 : Int32) = 0 ∨ (0 : Int32) = 1) ∧ Q (some (.int (0 : Int32))) μ)) : wm_Wp e 102 8 [.null, .null, .null, .null] μ Q := wm_vc mo_102 (rt := some .boolean) (by decide +kernel) mc_102 106 h
-- WindBoat$Tape.readTerm(I)Z, the place 10
set_option maxRecDepth 100000 in
set_option maxHeartbeats 8000000 in
theorem f_102_10 {e : Nat} (x1 : Int32) (μ : wm_M) (Q : Option Value → wm_M → Prop) (h : wm_Wp e 102 12 [.ref 59, .int x1, .int (0 : Int32), .null] μ Q) : wm_Wp e 102 10 [.ref 59, .int x1, .null, .null] μ Q := wm_vc mo_102 (rt := some .boolean) (by decide +kernel) mc_102 106 h
-- WindBoat$Tape.readTerm(I)Z, the place 12
set_option maxRecDepth 100000 in
set_option maxHeartbeats 8000000 in
theorem f_102_12 {e : Nat} (x1 : Int32) (x2 : Int32) (μ : wm_M) (Q : Option Value → wm_M → Prop) (h : (((120 : Int32) ≤ x2 → wm_Wp e 102 78 [.null, .null, .null, .null] μ Q) ∧ (¬ (120 : Int32) ≤ x2 → (((μ.1 59 8) = (42 : Int32) → wm_Wp e 102 45 [.ref 59, .int x1, .int x2, .null] μ Q) ∧ (¬ (μ.1 59 8) = (42 : Int32) → (((μ.1 59 8) = (47 : Int32) → wm_Wp e 102 45 [.ref 59, .int x1, .int x2, .null] μ Q) ∧ (¬ (μ.1 59 8) = (47 : Int32) → (((μ.1 59 8) = (37 : Int32) → wm_Wp e 102 45 [.ref 59, .int x1, .int x2, .null] μ Q) ∧ (¬ (μ.1 59 8) = (37 : Int32) → wm_Wp e 102 78 [.null, .null, .null, .null] μ Q))))))))) : wm_Wp e 102 12 [.ref 59, .int x1, .int x2, .null] μ Q := wm_vc mo_102 (rt := some .boolean) (by decide +kernel) mc_102 106 h
-- WindBoat$Tape.readTerm(I)Z, the place 45
set_option maxRecDepth 100000 in
set_option maxHeartbeats 8000000 in
theorem f_102_45 {e : Nat} (x1 : Int32) (x2 : Int32) (μ : wm_M) (Q : Option Value → wm_M → Prop) (h : wm_OkV 0 90 [.ref 59] μ (fun μ1 => wm_Wp e 102 54 [.ref 59, .int x1, .int x2, .int (μ.1 59 8)] μ1 Q)) : wm_Wp e 102 45 [.ref 59, .int x1, .int x2, .null] μ Q := wm_vc mo_102 (rt := some .boolean) (by decide +kernel) mc_102 106 h
-- WindBoat$Tape.readTerm(I)Z, the place 54
set_option maxRecDepth 100000 in
set_option maxHeartbeats 8000000 in
theorem f_102_54 {e : Nat} (x1 : Int32) (x2 : Int32) (x3 : Int32) (μ : wm_M) (Q : Option Value → wm_M → Prop) (h : wm_OkI e 103 [.ref 59, .int x1] μ (fun r2 μ1 => ((r2 = (0 : Int32) → wm_Wp e 102 62 [.null, .null, .null, .null] μ1 Q) ∧ (¬ r2 = (0 : Int32) → wm_Wp e 102 64 [.ref 59, .int x1, .int x2, .int x3] μ1 Q)))) : wm_Wp e 102 54 [.ref 59, .int x1, .int x2, .int x3] μ Q := wm_vc mo_102 (rt := some .boolean) (by decide +kernel) mc_102 106 h
-- WindBoat$Tape.readTerm(I)Z, the place 62
set_option maxRecDepth 100000 in
set_option maxHeartbeats 8000000 in
theorem f_102_62 {e : Nat} (μ : wm_M) (Q : Option Value → wm_M → Prop) (h : (((0 : Int32) = 0 ∨ (0 : Int32) = 1) ∧ Q (some (.int (0 : Int32))) μ)) : wm_Wp e 102 62 [.null, .null, .null, .null] μ Q := wm_vc mo_102 (rt := some .boolean) (by decide +kernel) mc_102 106 h
-- WindBoat$Tape.readTerm(I)Z, the place 64
set_option maxRecDepth 100000 in
set_option maxHeartbeats 8000000 in
theorem f_102_64 {e : Nat} (x1 : Int32) (x2 : Int32) (x3 : Int32) (μ : wm_M) (Q : Option Value → wm_M → Prop) (h : wm_OkV 0 96 [.ref 59, .int ((-100 : Int32) - x3)] μ (fun μ1 => wm_Wp e 102 72 [.ref 59, .int x1, .int x2, .null] μ1 Q)) : wm_Wp e 102 64 [.ref 59, .int x1, .int x2, .int x3] μ Q := wm_vc mo_102 (rt := some .boolean) (by decide +kernel) mc_102 106 h
-- WindBoat$Tape.readTerm(I)Z, the place 72
set_option maxRecDepth 100000 in
set_option maxHeartbeats 8000000 in
theorem f_102_72 {e : Nat} (x1 : Int32) (x2 : Int32) (μ : wm_M) (Q : Option Value → wm_M → Prop) (h : wm_Wp e 102 12 [.ref 59, .int x1, .int (x2 + (1 : Int32)), .null] μ Q) : wm_Wp e 102 72 [.ref 59, .int x1, .int x2, .null] μ Q := wm_vc mo_102 (rt := some .boolean) (by decide +kernel) mc_102 106 h
-- WindBoat$Tape.readTerm(I)Z, the place 78
set_option maxRecDepth 100000 in
set_option maxHeartbeats 8000000 in
theorem f_102_78 {e : Nat} (μ : wm_M) (Q : Option Value → wm_M → Prop) (h : (((1 : Int32) = 0 ∨ (1 : Int32) = 1) ∧ Q (some (.int (1 : Int32))) μ)) : wm_Wp e 102 78 [.null, .null, .null, .null] μ Q := wm_vc mo_102 (rt := some .boolean) (by decide +kernel) mc_102 106 h
-- WindBoat$Tape.readOne(I)Z
set_option maxRecDepth 100000 in
set_option maxHeartbeats 8000000 in
theorem f_103 {e : Nat} (a1 : Int32) (μ : wm_M) (Q : Option Value → wm_M → Prop) (h : (((μ.1 59 8) = (129 : Int32) → wm_OkV 0 96 [.ref 59, .int (μ.1 59 9)] μ (fun μ1 => wm_Wp e 103 18 [.ref 59, .null] μ1 Q)) ∧ (¬ (μ.1 59 8) = (129 : Int32) → wm_Wp e 103 24 [.ref 59, .int a1] μ Q))) : wm_Ok e 103 [.ref 59, .int a1] μ Q := wm_ent (nL := 2) (l := [.ref 59, .int a1]) (by decide +kernel) (by decide +kernel) (by decide +kernel) rfl rfl (wm_vc mo_103 (rt := some .boolean) (by decide +kernel) mc_103 142 h)
-- WindBoat$Tape.readOne(I)Z, the place 18
set_option maxRecDepth 100000 in
set_option maxHeartbeats 8000000 in
theorem f_103_18 {e : Nat} (μ : wm_M) (Q : Option Value → wm_M → Prop) (h : wm_OkV 0 90 [.ref 59] μ (fun μ1 => wm_Wp e 103 22 [.null, .null] μ1 Q)) : wm_Wp e 103 18 [.ref 59, .null] μ Q := wm_vc mo_103 (rt := some .boolean) (by decide +kernel) mc_103 142 h
-- WindBoat$Tape.readOne(I)Z, the place 22
set_option maxRecDepth 100000 in
set_option maxHeartbeats 8000000 in
theorem f_103_22 {e : Nat} (μ : wm_M) (Q : Option Value → wm_M → Prop) (h : (((1 : Int32) = 0 ∨ (1 : Int32) = 1) ∧ Q (some (.int (1 : Int32))) μ)) : wm_Wp e 103 22 [.null, .null] μ Q := wm_vc mo_103 (rt := some .boolean) (by decide +kernel) mc_103 142 h
-- WindBoat$Tape.readOne(I)Z, the place 24
set_option maxRecDepth 100000 in
set_option maxHeartbeats 8000000 in
theorem f_103_24 {e : Nat} (x1 : Int32) (μ : wm_M) (Q : Option Value → wm_M → Prop) (h : (((μ.1 59 8) < (3 : Int32) → wm_Wp e 103 59 [.ref 59, .int x1] μ Q) ∧ (¬ (μ.1 59 8) < (3 : Int32) → (((8 : Int32) < (μ.1 59 8) → wm_Wp e 103 59 [.ref 59, .int x1] μ Q) ∧ (¬ (8 : Int32) < (μ.1 59 8) → wm_OkV 0 96 [.ref 59, .int ((-1 : Int32) - ((μ.1 59 8) - (3 : Int32)))] μ (fun μ1 => wm_Wp e 103 53 [.ref 59, .null] μ1 Q)))))) : wm_Wp e 103 24 [.ref 59, .int x1] μ Q := wm_vc mo_103 (rt := some .boolean) (by decide +kernel) mc_103 142 h
-- WindBoat$Tape.readOne(I)Z, the place 53
set_option maxRecDepth 100000 in
set_option maxHeartbeats 8000000 in
theorem f_103_53 {e : Nat} (μ : wm_M) (Q : Option Value → wm_M → Prop) (h : wm_OkV 0 90 [.ref 59] μ (fun μ1 => wm_Wp e 103 57 [.null, .null] μ1 Q)) : wm_Wp e 103 53 [.ref 59, .null] μ Q := wm_vc mo_103 (rt := some .boolean) (by decide +kernel) mc_103 142 h
-- WindBoat$Tape.readOne(I)Z, the place 57
set_option maxRecDepth 100000 in
set_option maxHeartbeats 8000000 in
theorem f_103_57 {e : Nat} (μ : wm_M) (Q : Option Value → wm_M → Prop) (h : (((1 : Int32) = 0 ∨ (1 : Int32) = 1) ∧ Q (some (.int (1 : Int32))) μ)) : wm_Wp e 103 57 [.null, .null] μ Q := wm_vc mo_103 (rt := some .boolean) (by decide +kernel) mc_103 142 h
-- WindBoat$Tape.readOne(I)Z, the place 59
set_option maxRecDepth 100000 in
set_option maxHeartbeats 8000000 in
theorem f_103_59 {e : Nat} (x1 : Int32) (μ : wm_M) (Q : Option Value → wm_M → Prop) (h : ((x1 = (6 : Int32) → wm_Wp e 103 83 [.null, .null] μ Q) ∧ (¬ x1 = (6 : Int32) → (((μ.1 59 8) = (45 : Int32) → wm_Wp e 103 85 [.ref 59, .int x1] μ Q) ∧ (¬ (μ.1 59 8) = (45 : Int32) → (((μ.1 59 8) = (40 : Int32) → wm_Wp e 103 85 [.ref 59, .int x1] μ Q) ∧ (¬ (μ.1 59 8) = (40 : Int32) → wm_Wp e 103 83 [.null, .null] μ Q))))))) : wm_Wp e 103 59 [.ref 59, .int x1] μ Q := wm_vc mo_103 (rt := some .boolean) (by decide +kernel) mc_103 142 h
-- WindBoat$Tape.readOne(I)Z, the place 83
set_option maxRecDepth 100000 in
set_option maxHeartbeats 8000000 in
theorem f_103_83 {e : Nat} (μ : wm_M) (Q : Option Value → wm_M → Prop) (h : (((0 : Int32) = 0 ∨ (0 : Int32) = 1) ∧ Q (some (.int (0 : Int32))) μ)) : wm_Wp e 103 83 [.null, .null] μ Q := wm_vc mo_103 (rt := some .boolean) (by decide +kernel) mc_103 142 h
-- WindBoat$Tape.readOne(I)Z, the place 85
set_option maxRecDepth 100000 in
set_option maxHeartbeats 8000000 in
theorem f_103_85 {e : Nat} (x1 : Int32) (μ : wm_M) (Q : Option Value → wm_M → Prop) (h : (((μ.1 59 8) = (45 : Int32) → wm_OkI e 104 [.ref 59, .int (x1 + (1 : Int32))] μ (fun r2 μ1 => ((r2 = 0 ∨ r2 = 1) ∧ Q (some (.int r2)) μ1))) ∧ (¬ (μ.1 59 8) = (45 : Int32) → wm_Wp e 103 104 [.ref 59, .int x1] μ Q))) : wm_Wp e 103 85 [.ref 59, .int x1] μ Q := wm_vc mo_103 (rt := some .boolean) (by decide +kernel) mc_103 142 h
-- WindBoat$Tape.readOne(I)Z, the place 104
set_option maxRecDepth 100000 in
set_option maxHeartbeats 8000000 in
theorem f_103_104 {e : Nat} (x1 : Int32) (μ : wm_M) (Q : Option Value → wm_M → Prop) (h : wm_OkI e 105 [.ref 59, .int (x1 + (1 : Int32))] μ (fun r2 μ1 => ((r2 = 0 ∨ r2 = 1) ∧ Q (some (.int r2)) μ1))) : wm_Wp e 103 104 [.ref 59, .int x1] μ Q := wm_vc mo_103 (rt := some .boolean) (by decide +kernel) mc_103 142 h
-- WindBoat$Tape.readMinus(I)Z
set_option maxRecDepth 100000 in
set_option maxHeartbeats 8000000 in
theorem f_104 {e : Nat} (a1 : Int32) (μ : wm_M) (Q : Option Value → wm_M → Prop) (h : wm_OkV 0 90 [.ref 59] μ (fun μ1 => wm_Wp (e + 1) 104 4 [.ref 59, .int a1] μ1 Q)) : wm_Ok (e + 1) 104 [.ref 59, .int a1] μ Q := wm_ent (nL := 2) (l := [.ref 59, .int a1]) (by decide +kernel) (by decide +kernel) (by decide +kernel) rfl rfl (wm_vc mo_104 (rt := some .boolean) (by decide +kernel) mc_104 46 h)
-- WindBoat$Tape.readMinus(I)Z, the place 4
set_option maxRecDepth 100000 in
set_option maxHeartbeats 8000000 in
theorem f_104_4 {e : Nat} (x1 : Int32) (μ : wm_M) (Q : Option Value → wm_M → Prop) (h : wm_OkI e 103 [.ref 59, .int x1] μ (fun r2 μ1 => ((r2 = (0 : Int32) → wm_Wp (e + 1) 104 12 [.null, .null] μ1 Q) ∧ (¬ r2 = (0 : Int32) → wm_Wp (e + 1) 104 14 [.ref 59, .null] μ1 Q)))) : wm_Wp (e + 1) 104 4 [.ref 59, .int x1] μ Q := wm_vc mo_104 (rt := some .boolean) (by decide +kernel) mc_104 46 h
-- WindBoat$Tape.readMinus(I)Z, the place 12
set_option maxRecDepth 100000 in
set_option maxHeartbeats 8000000 in
theorem f_104_12 {e : Nat} (μ : wm_M) (Q : Option Value → wm_M → Prop) (h : (((0 : Int32) = 0 ∨ (0 : Int32) = 1) ∧ Q (some (.int (0 : Int32))) μ)) : wm_Wp (e + 1) 104 12 [.null, .null] μ Q := wm_vc mo_104 (rt := some .boolean) (by decide +kernel) mc_104 46 h
-- WindBoat$Tape.readMinus(I)Z, the place 14
set_option maxRecDepth 100000 in
set_option maxHeartbeats 8000000 in
theorem f_104_14 {e : Nat} (μ : wm_M) (Q : Option Value → wm_M → Prop) (h : wm_OkV 0 96 [.ref 59, .int (-101 : Int32)] μ (fun μ1 => wm_Wp (e + 1) 104 20 [.null, .null] μ1 Q)) : wm_Wp (e + 1) 104 14 [.ref 59, .null] μ Q := wm_vc mo_104 (rt := some .boolean) (by decide +kernel) mc_104 46 h
-- WindBoat$Tape.readMinus(I)Z, the place 20
set_option maxRecDepth 100000 in
set_option maxHeartbeats 8000000 in
theorem f_104_20 {e : Nat} (μ : wm_M) (Q : Option Value → wm_M → Prop) (h : (((1 : Int32) = 0 ∨ (1 : Int32) = 1) ∧ Q (some (.int (1 : Int32))) μ)) : wm_Wp (e + 1) 104 20 [.null, .null] μ Q := wm_vc mo_104 (rt := some .boolean) (by decide +kernel) mc_104 46 h
-- WindBoat$Tape.readBrackets(I)Z
set_option maxRecDepth 100000 in
set_option maxHeartbeats 8000000 in
theorem f_105 {e : Nat} (a1 : Int32) (μ : wm_M) (Q : Option Value → wm_M → Prop) (h : wm_OkV 0 90 [.ref 59] μ (fun μ1 => wm_Wp (e + 1) 105 4 [.ref 59, .int a1] μ1 Q)) : wm_Ok (e + 1) 105 [.ref 59, .int a1] μ Q := wm_ent (nL := 2) (l := [.ref 59, .int a1]) (by decide +kernel) (by decide +kernel) (by decide +kernel) rfl rfl (wm_vc mo_105 (rt := some .boolean) (by decide +kernel) mc_105 52 h)
-- WindBoat$Tape.readBrackets(I)Z, the place 4
set_option maxRecDepth 100000 in
set_option maxHeartbeats 8000000 in
theorem f_105_4 {e : Nat} (x1 : Int32) (μ : wm_M) (Q : Option Value → wm_M → Prop) (h : wm_OkI e 97 [.ref 59, .int x1] μ (fun r2 μ1 => ((r2 = (0 : Int32) → wm_Wp (e + 1) 105 21 [.null, .null] μ1 Q) ∧ (¬ r2 = (0 : Int32) → wm_Wp (e + 1) 105 12 [.ref 59, .null] μ1 Q)))) : wm_Wp (e + 1) 105 4 [.ref 59, .int x1] μ Q := wm_vc mo_105 (rt := some .boolean) (by decide +kernel) mc_105 52 h
-- WindBoat$Tape.readBrackets(I)Z, the place 12
set_option maxRecDepth 100000 in
set_option maxHeartbeats 8000000 in
theorem f_105_12 {e : Nat} (μ : wm_M) (Q : Option Value → wm_M → Prop) (h : (((μ.1 59 8) = (41 : Int32) → wm_Wp (e + 1) 105 23 [.ref 59, .null] μ Q) ∧ (¬ (μ.1 59 8) = (41 : Int32) → wm_Wp (e + 1) 105 21 [.null, .null] μ Q))) : wm_Wp (e + 1) 105 12 [.ref 59, .null] μ Q := wm_vc mo_105 (rt := some .boolean) (by decide +kernel) mc_105 52 h
-- WindBoat$Tape.readBrackets(I)Z, the place 21
set_option maxRecDepth 100000 in
set_option maxHeartbeats 8000000 in
theorem f_105_21 {e : Nat} (μ : wm_M) (Q : Option Value → wm_M → Prop) (h : (((0 : Int32) = 0 ∨ (0 : Int32) = 1) ∧ Q (some (.int (0 : Int32))) μ)) : wm_Wp (e + 1) 105 21 [.null, .null] μ Q := wm_vc mo_105 (rt := some .boolean) (by decide +kernel) mc_105 52 h
-- WindBoat$Tape.readBrackets(I)Z, the place 23
set_option maxRecDepth 100000 in
set_option maxHeartbeats 8000000 in
theorem f_105_23 {e : Nat} (μ : wm_M) (Q : Option Value → wm_M → Prop) (h : wm_OkV 0 90 [.ref 59] μ (fun μ1 => wm_Wp (e + 1) 105 27 [.null, .null] μ1 Q)) : wm_Wp (e + 1) 105 23 [.ref 59, .null] μ Q := wm_vc mo_105 (rt := some .boolean) (by decide +kernel) mc_105 52 h
-- WindBoat$Tape.readBrackets(I)Z, the place 27
set_option maxRecDepth 100000 in
set_option maxHeartbeats 8000000 in
theorem f_105_27 {e : Nat} (μ : wm_M) (Q : Option Value → wm_M → Prop) (h : (((1 : Int32) = 0 ∨ (1 : Int32) = 1) ∧ Q (some (.int (1 : Int32))) μ)) : wm_Wp (e + 1) 105 27 [.null, .null] μ Q := wm_vc mo_105 (rt := some .boolean) (by decide +kernel) mc_105 52 h
-- WindBoat$Ways.find(IIII)I
set_option maxRecDepth 100000 in
set_option maxHeartbeats 8000000 in
theorem f_107 (a1 : Int32) (a2 : Int32) (a3 : Int32) (a4 : Int32) (μ : wm_M) (Q : Option Value → wm_M → Prop) (h : wm_Wp 0 107 5 [.ref 69, .int a1, .int a2, .null, .int a4, .null, .null, .null, .null] (wm_si μ 69 7 a3) Q) : wm_Ok 0 107 [.ref 69, .int a1, .int a2, .int a3, .int a4] μ Q := wm_ent (nL := 9) (l := [.ref 69, .int a1, .int a2, .int a3, .int a4, .null, .null, .null, .null]) (by decide +kernel) (by decide +kernel) (by decide +kernel) rfl rfl (wm_vc mo_107 (rt := some .int) (by decide +kernel) mc_107 136 h)
-- WindBoat$Ways.find(IIII)I, the place 5
set_option maxRecDepth 100000 in
set_option maxHeartbeats 8000000 in
theorem f_107_5 (x1 : Int32) (x2 : Int32) (x4 : Int32) (μ : wm_M) (Q : Option Value → wm_M → Prop) (h : wm_OkV 0 343 [.ref 70, .int (999 : Int32)] μ (fun μ1 => wm_Wp 0 107 15 [.ref 69, .int x1, .int x2, .null, .int x4, .null, .null, .null, .null] μ1 Q)) : wm_Wp 0 107 5 [.ref 69, .int x1, .int x2, .null, .int x4, .null, .null, .null, .null] μ Q := wm_vc mo_107 (rt := some .int) (by decide +kernel) mc_107 136 h
-- WindBoat$Ways.find(IIII)I, the place 15
set_option maxRecDepth 100000 in
set_option maxHeartbeats 8000000 in
theorem f_107_15 (x1 : Int32) (x2 : Int32) (x4 : Int32) (μ : wm_M) (Q : Option Value → wm_M → Prop) (h : wm_OkV 0 343 [.ref 73, .int (-1 : Int32)] μ (fun μ1 => wm_Wp 0 107 23 [.ref 69, .int x1, .int x2, .null, .int x4, .null, .null, .null, .null] μ1 Q)) : wm_Wp 0 107 15 [.ref 69, .int x1, .int x2, .null, .int x4, .null, .null, .null, .null] μ Q := wm_vc mo_107 (rt := some .int) (by decide +kernel) mc_107 136 h
-- WindBoat$Ways.find(IIII)I, the place 23
set_option maxRecDepth 100000 in
set_option maxHeartbeats 8000000 in
theorem f_107_23 (x1 : Int32) (x2 : Int32) (x4 : Int32) (μ : wm_M) (Q : Option Value → wm_M → Prop) (h : wm_OkV 0 110 [.ref 69, .int x1, .int x2] μ (fun μ1 => wm_Wp 0 107 29 [.ref 69, .null, .int x2, .null, .int x4, .null, .null, .null, .null] μ1 Q)) : wm_Wp 0 107 23 [.ref 69, .int x1, .int x2, .null, .int x4, .null, .null, .null, .null] μ Q := wm_vc mo_107 (rt := some .int) (by decide +kernel) mc_107 136 h
-- WindBoat$Ways.find(IIII)I, the place 29
set_option maxRecDepth 100000 in
set_option maxHeartbeats 8000000 in
theorem f_107_29 (x2 : Int32) (x4 : Int32) (μ : wm_M) (Q : Option Value → wm_M → Prop) (h : wm_Wp 0 107 32 [.ref 69, .null, .null, .null, .int x4, .int x2, .null, .null, .null] μ Q) : wm_Wp 0 107 29 [.ref 69, .null, .int x2, .null, .int x4, .null, .null, .null, .null] μ Q := wm_vc mo_107 (rt := some .int) (by decide +kernel) mc_107 136 h
-- WindBoat$Ways.find(IIII)I, the place 32
set_option maxRecDepth 100000 in
set_option maxHeartbeats 8000000 in
theorem f_107_32 (x4 : Int32) (x5 : Int32) (μ : wm_M) (Q : Option Value → wm_M → Prop) (h : (((120 : Int32) < x5 → wm_Wp 0 107 113 [.null, .null, .null, .null, .null, .null, .null, .null, .null] μ Q) ∧ (¬ (120 : Int32) < x5 → wm_OkI 0 108 [.ref 69, .int x4, .int x5] μ (fun r2 μ1 => wm_Wp 0 107 49 [.ref 69, .null, .null, .null, .int x4, .int x5, .int r2, .null, .null] μ1 Q)))) : wm_Wp 0 107 32 [.ref 69, .null, .null, .null, .int x4, .int x5, .null, .null, .null] μ Q := wm_vc mo_107 (rt := some .int) (by decide +kernel) mc_107 136 h
-- WindBoat$Ways.find(IIII)I, the place 49
set_option maxRecDepth 100000 in
set_option maxHeartbeats 8000000 in
theorem f_107_49 (x4 : Int32) (x5 : Int32) (x6 : Int32) (μ : wm_M) (Q : Option Value → wm_M → Prop) (h : ((x6 = (-1 : Int32) → wm_Wp 0 107 58 [.ref 69, .null, .null, .null, .int x4, .int x5, .null, .null, .null] μ Q) ∧ (¬ x6 = (-1 : Int32) → Q (some (.int x6)) μ))) : wm_Wp 0 107 49 [.ref 69, .null, .null, .null, .int x4, .int x5, .int x6, .null, .null] μ Q := wm_vc mo_107 (rt := some .int) (by decide +kernel) mc_107 136 h
-- WindBoat$Ways.find(IIII)I, the place 58
set_option maxRecDepth 100000 in
set_option maxHeartbeats 8000000 in
theorem f_107_58 (x4 : Int32) (x5 : Int32) (μ : wm_M) (Q : Option Value → wm_M → Prop) (h : (vp_in x5 121 ∧ wm_Wp 0 107 70 [.ref 69, .null, .null, .null, .int x4, .int x5, .null, .int (μ.1 73 (x5).toNatClampNeg), .int (0 : Int32)] μ Q)) : wm_Wp 0 107 58 [.ref 69, .null, .null, .null, .int x4, .int x5, .null, .null, .null] μ Q := wm_vc mo_107 (rt := some .int) (by decide +kernel) mc_107 136 h
-- WindBoat$Ways.find(IIII)I, the place 70
set_option maxRecDepth 100000 in
set_option maxHeartbeats 8000000 in
theorem f_107_70 (x4 : Int32) (x5 : Int32) (x7 : Int32) (x8 : Int32) (μ : wm_M) (Q : Option Value → wm_M → Prop) (h : (((864 : Int32) ≤ x8 → wm_Wp 0 107 107 [.ref 69, .null, .null, .null, .int x4, .int x5, .null, .null, .null] μ Q) ∧ (¬ (864 : Int32) ≤ x8 → ((x7 = (-1 : Int32) → wm_Wp 0 107 107 [.ref 69, .null, .null, .null, .int x4, .int x5, .null, .null, .null] μ Q) ∧ (¬ x7 = (-1 : Int32) → wm_OkV 0 109 [.ref 69, .int x7, .int x5] μ (fun μ1 => wm_Wp 0 107 92 [.ref 69, .null, .null, .null, .int x4, .int x5, .null, .int x7, .int x8] μ1 Q)))))) : wm_Wp 0 107 70 [.ref 69, .null, .null, .null, .int x4, .int x5, .null, .int x7, .int x8] μ Q := wm_vc mo_107 (rt := some .int) (by decide +kernel) mc_107 136 h
-- WindBoat$Ways.find(IIII)I, the place 92
set_option maxRecDepth 100000 in
set_option maxHeartbeats 8000000 in
theorem f_107_92 (x4 : Int32) (x5 : Int32) (x7 : Int32) (x8 : Int32) (μ : wm_M) (Q : Option Value → wm_M → Prop) (h : (vp_in x7 864 ∧ wm_Wp 0 107 70 [.ref 69, .null, .null, .null, .int x4, .int x5, .null, .int (μ.1 71 (x7).toNatClampNeg), .int (x8 + (1 : Int32))] μ Q)) : wm_Wp 0 107 92 [.ref 69, .null, .null, .null, .int x4, .int x5, .null, .int x7, .int x8] μ Q := wm_vc mo_107 (rt := some .int) (by decide +kernel) mc_107 136 h
-- WindBoat$Ways.find(IIII)I, the place 107
set_option maxRecDepth 100000 in
set_option maxHeartbeats 8000000 in
theorem f_107_107 (x4 : Int32) (x5 : Int32) (μ : wm_M) (Q : Option Value → wm_M → Prop) (h : wm_Wp 0 107 32 [.ref 69, .null, .null, .null, .int x4, .int (x5 + (1 : Int32)), .null, .null, .null] μ Q) : wm_Wp 0 107 107 [.ref 69, .null, .null, .null, .int x4, .int x5, .null, .null, .null] μ Q := wm_vc mo_107 (rt := some .int) (by decide +kernel) mc_107 136 h
-- WindBoat$Ways.find(IIII)I, the place 113
set_option maxRecDepth 100000 in
set_option maxHeartbeats 8000000 in
theorem f_107_113 (μ : wm_M) (Q : Option Value → wm_M → Prop) (h : Q (some (.int (-1 : Int32))) μ) : wm_Wp 0 107 113 [.null, .null, .null, .null, .null, .null, .null, .null, .null] μ Q := wm_vc mo_107 (rt := some .int) (by decide +kernel) mc_107 136 h
-- WindBoat$Ways.labelledIn(II)I
set_option maxRecDepth 100000 in
set_option maxHeartbeats 8000000 in
theorem f_108 (a1 : Int32) (a2 : Int32) (μ : wm_M) (Q : Option Value → wm_M → Prop) (h : wm_Wp 0 108 2 [.ref 69, .int a1, .int a2, .int (0 : Int32), .null] μ Q) : wm_Ok 0 108 [.ref 69, .int a1, .int a2] μ Q := wm_ent (nL := 5) (l := [.ref 69, .int a1, .int a2, .null, .null]) (by decide +kernel) (by decide +kernel) (by decide +kernel) rfl rfl (wm_vc mo_108 (rt := some .int) (by decide +kernel) mc_108 66 h)
-- WindBoat$Ways.labelledIn(II)I, the place 2
set_option maxRecDepth 100000 in
set_option maxHeartbeats 8000000 in
theorem f_108_2 (x1 : Int32) (x2 : Int32) (x3 : Int32) (μ : wm_M) (Q : Option Value → wm_M → Prop) (h : (((24 : Int32) ≤ x3 → wm_Wp 0 108 36 [.null, .null, .null, .null, .null] μ Q) ∧ (¬ (24 : Int32) ≤ x3 → (vp_in ((x1 * (24 : Int32)) + x3) 864 ∧ (((μ.1 70 (((x1 * (24 : Int32)) + x3)).toNatClampNeg) = x2 → wm_Wp 0 108 27 [.null, .null, .null, .null, .int ((x1 * (24 : Int32)) + x3)] μ Q) ∧ (¬ (μ.1 70 (((x1 * (24 : Int32)) + x3)).toNatClampNeg) = x2 → wm_Wp 0 108 30 [.ref 69, .int x1, .int x2, .int x3, .null] μ Q)))))) : wm_Wp 0 108 2 [.ref 69, .int x1, .int x2, .int x3, .null] μ Q := wm_vc mo_108 (rt := some .int) (by decide +kernel) mc_108 66 h
-- WindBoat$Ways.labelledIn(II)I, the place 27
set_option maxRecDepth 100000 in
set_option maxHeartbeats 8000000 in
theorem f_108_27 (x4 : Int32) (μ : wm_M) (Q : Option Value → wm_M → Prop) (h : Q (some (.int x4)) μ) : wm_Wp 0 108 27 [.null, .null, .null, .null, .int x4] μ Q := wm_vc mo_108 (rt := some .int) (by decide +kernel) mc_108 66 h
-- WindBoat$Ways.labelledIn(II)I, the place 30
set_option maxRecDepth 100000 in
set_option maxHeartbeats 8000000 in
theorem f_108_30 (x1 : Int32) (x2 : Int32) (x3 : Int32) (μ : wm_M) (Q : Option Value → wm_M → Prop) (h : wm_Wp 0 108 2 [.ref 69, .int x1, .int x2, .int (x3 + (1 : Int32)), .null] μ Q) : wm_Wp 0 108 30 [.ref 69, .int x1, .int x2, .int x3, .null] μ Q := wm_vc mo_108 (rt := some .int) (by decide +kernel) mc_108 66 h
-- WindBoat$Ways.labelledIn(II)I, the place 36
set_option maxRecDepth 100000 in
set_option maxHeartbeats 8000000 in
theorem f_108_36 (μ : wm_M) (Q : Option Value → wm_M → Prop) (h : Q (some (.int (-1 : Int32))) μ) : wm_Wp 0 108 36 [.null, .null, .null, .null, .null] μ Q := wm_vc mo_108 (rt := some .int) (by decide +kernel) mc_108 66 h
-- WindBoat$Ways.spread(II)V
set_option maxRecDepth 100000 in
set_option maxHeartbeats 8000000 in
theorem f_109 (a1 : Int32) (a2 : Int32) (μ : wm_M) (Q : Option Value → wm_M → Prop) (h : (¬ (3 : Int32) = 0 ∧ (¬ (3 : Int32) = 0 ∧ (¬ (8 : Int32) = 0 ∧ (¬ (24 : Int32) = 0 ∧ wm_Wp 0 109 18 [.ref 69, .int a1, .int a2, .int (a1 - a1 / (3 : Int32) * (3 : Int32)), .int ((a1 / (3 : Int32)) - (a1 / (3 : Int32)) / (8 : Int32) * (8 : Int32)), .int (a1 / (24 : Int32)), .null] μ Q))))) : wm_Ok 0 109 [.ref 69, .int a1, .int a2] μ Q := wm_ent (nL := 7) (l := [.ref 69, .int a1, .int a2, .null, .null, .null, .null]) (by decide +kernel) (by decide +kernel) (by decide +kernel) rfl rfl (wm_vc mo_109 (rt := none) (by decide +kernel) mc_109 206 h)
-- WindBoat$Ways.spread(II)V, the place 18
set_option maxRecDepth 100000 in
set_option maxHeartbeats 8000000 in
theorem f_109_18 (x1 : Int32) (x2 : Int32) (x3 : Int32) (x4 : Int32) (x5 : Int32) (μ : wm_M) (Q : Option Value → wm_M → Prop) (h : wm_Wp 0 109 21 [.ref 69, .int x1, .int x2, .int x3, .int x4, .int x5, .int (0 : Int32)] μ Q) : wm_Wp 0 109 18 [.ref 69, .int x1, .int x2, .int x3, .int x4, .int x5, .null] μ Q := wm_vc mo_109 (rt := none) (by decide +kernel) mc_109 206 h
-- WindBoat$Ways.spread(II)V, the place 21
set_option maxRecDepth 100000 in
set_option maxHeartbeats 8000000 in
theorem f_109_21 (x1 : Int32) (x2 : Int32) (x3 : Int32) (x4 : Int32) (x5 : Int32) (x6 : Int32) (μ : wm_M) (Q : Option Value → wm_M → Prop) (h : (((8 : Int32) ≤ x6 → wm_Wp 0 109 62 [.ref 69, .int x1, .int x2, .int x3, .int x4, .int x5, .null] μ Q) ∧ (¬ (8 : Int32) ≤ x6 → ((x6 = x4 → wm_Wp 0 109 56 [.ref 69, .int x1, .int x2, .int x3, .int x4, .int x5, .int x6] μ Q) ∧ (¬ x6 = x4 → wm_OkI 0 183 [.int x5, .int x6, .int x3] μ (fun r2 μ1 => wm_OkI 0 181 [.int x6, .int x4] μ1 (fun r4 μ3 => wm_OkV 0 110 [.ref 69, .int r2, .int (x2 + r4)] μ3 (fun μ5 => wm_Wp 0 109 56 [.ref 69, .int x1, .int x2, .int x3, .int x4, .int x5, .int x6] μ5 Q)))))))) : wm_Wp 0 109 21 [.ref 69, .int x1, .int x2, .int x3, .int x4, .int x5, .int x6] μ Q := wm_vc mo_109 (rt := none) (by decide +kernel) mc_109 206 h
-- WindBoat$Ways.spread(II)V, the place 56
set_option maxRecDepth 100000 in
set_option maxHeartbeats 8000000 in
theorem f_109_56 (x1 : Int32) (x2 : Int32) (x3 : Int32) (x4 : Int32) (x5 : Int32) (x6 : Int32) (μ : wm_M) (Q : Option Value → wm_M → Prop) (h : wm_Wp 0 109 21 [.ref 69, .int x1, .int x2, .int x3, .int x4, .int x5, .int (x6 + (1 : Int32))] μ Q) : wm_Wp 0 109 56 [.ref 69, .int x1, .int x2, .int x3, .int x4, .int x5, .int x6] μ Q := wm_vc mo_109 (rt := none) (by decide +kernel) mc_109 206 h
-- WindBoat$Ways.spread(II)V, the place 62
set_option maxRecDepth 100000 in
set_option maxHeartbeats 8000000 in
theorem f_109_62 (x1 : Int32) (x2 : Int32) (x3 : Int32) (x4 : Int32) (x5 : Int32) (μ : wm_M) (Q : Option Value → wm_M → Prop) (h : wm_Wp 0 109 65 [.ref 69, .int x1, .int x2, .int x3, .int x4, .int x5, .int (0 : Int32)] μ Q) : wm_Wp 0 109 62 [.ref 69, .int x1, .int x2, .int x3, .int x4, .int x5, .null] μ Q := wm_vc mo_109 (rt := none) (by decide +kernel) mc_109 206 h
-- WindBoat$Ways.spread(II)V, the place 65
set_option maxRecDepth 100000 in
set_option maxHeartbeats 8000000 in
theorem f_109_65 (x1 : Int32) (x2 : Int32) (x3 : Int32) (x4 : Int32) (x5 : Int32) (x6 : Int32) (μ : wm_M) (Q : Option Value → wm_M → Prop) (h : (((μ.1 13 10) ≤ x6 → wm_Wp 0 109 124 [.ref 69, .null, .int x2, .int x3, .int x4, .int x5, .null] μ Q) ∧ (¬ (μ.1 13 10) ≤ x6 → ((x6 = x3 → wm_Wp 0 109 118 [.ref 69, .int x1, .int x2, .int x3, .int x4, .int x5, .int x6] μ Q) ∧ (¬ x6 = x3 → (vp_in x6 3 ∧ (((μ.1 15 (x6).toNatClampNeg) = (0 : Int32) → wm_Wp 0 109 102 [.ref 69, .int x1, .int x2, .int x3, .int x4, .int x5, .int x6] μ Q) ∧ (¬ (μ.1 15 (x6).toNatClampNeg) = (0 : Int32) → wm_Wp 0 109 118 [.ref 69, .int x1, .int x2, .int x3, .int x4, .int x5, .int x6] μ Q)))))))) : wm_Wp 0 109 65 [.ref 69, .int x1, .int x2, .int x3, .int x4, .int x5, .int x6] μ Q := wm_vc mo_109 (rt := none) (by decide +kernel) mc_109 206 h
-- WindBoat$Ways.spread(II)V, the place 102
set_option maxRecDepth 100000 in
set_option maxHeartbeats 8000000 in
theorem f_109_102 (x1 : Int32) (x2 : Int32) (x3 : Int32) (x4 : Int32) (x5 : Int32) (x6 : Int32) (μ : wm_M) (Q : Option Value → wm_M → Prop) (h : wm_OkV 0 110 [.ref 69, .int ((x1 - x3) + x6), .int (x2 + (μ.1 69 7))] μ (fun μ1 => wm_Wp 0 109 118 [.ref 69, .int x1, .int x2, .int x3, .int x4, .int x5, .int x6] μ1 Q)) : wm_Wp 0 109 102 [.ref 69, .int x1, .int x2, .int x3, .int x4, .int x5, .int x6] μ Q := wm_vc mo_109 (rt := none) (by decide +kernel) mc_109 206 h
-- WindBoat$Ways.spread(II)V, the place 118
set_option maxRecDepth 100000 in
set_option maxHeartbeats 8000000 in
theorem f_109_118 (x1 : Int32) (x2 : Int32) (x3 : Int32) (x4 : Int32) (x5 : Int32) (x6 : Int32) (μ : wm_M) (Q : Option Value → wm_M → Prop) (h : wm_Wp 0 109 65 [.ref 69, .int x1, .int x2, .int x3, .int x4, .int x5, .int (x6 + (1 : Int32))] μ Q) : wm_Wp 0 109 118 [.ref 69, .int x1, .int x2, .int x3, .int x4, .int x5, .int x6] μ Q := wm_vc mo_109 (rt := none) (by decide +kernel) mc_109 206 h
-- WindBoat$Ways.spread(II)V, the place 124
set_option maxRecDepth 100000 in
set_option maxHeartbeats 8000000 in
theorem f_109_124 (x2 : Int32) (x3 : Int32) (x4 : Int32) (x5 : Int32) (μ : wm_M) (Q : Option Value → wm_M → Prop) (h : (vp_in ((x5 * (8 : Int32)) + x4) 288 ∧ (((μ.1 68 (((x5 * (8 : Int32)) + x4)).toNatClampNeg) = (-1 : Int32) → wm_Wp 0 109 173 [.null, .null, .null, .null, .null, .null, .null] μ Q) ∧ (¬ (μ.1 68 (((x5 * (8 : Int32)) + x4)).toNatClampNeg) = (-1 : Int32) → wm_Wp 0 109 148 [.ref 69, .null, .int x2, .int x3, .int x4, .int x5, .int (μ.1 68 (((x5 * (8 : Int32)) + x4)).toNatClampNeg)] μ Q)))) : wm_Wp 0 109 124 [.ref 69, .null, .int x2, .int x3, .int x4, .int x5, .null] μ Q := wm_vc mo_109 (rt := none) (by decide +kernel) mc_109 206 h
-- WindBoat$Ways.spread(II)V, the place 148
set_option maxRecDepth 100000 in
set_option maxHeartbeats 8000000 in
theorem f_109_148 (x2 : Int32) (x3 : Int32) (x4 : Int32) (x5 : Int32) (x6 : Int32) (μ : wm_M) (Q : Option Value → wm_M → Prop) (h : wm_OkI 0 183 [.int x6, .int x4, .int x3] μ (fun r2 μ1 => wm_OkI 0 24 [.ref 62, .int x5, .int x4, .int x3, .int x2] μ1 (fun r4 μ3 => wm_OkV 0 110 [.ref 69, .int r2, .int r4] μ3 (fun μ5 => wm_Wp 0 109 173 [.null, .null, .null, .null, .null, .null, .null] μ5 Q)))) : wm_Wp 0 109 148 [.ref 69, .null, .int x2, .int x3, .int x4, .int x5, .int x6] μ Q := wm_vc mo_109 (rt := none) (by decide +kernel) mc_109 206 h
-- WindBoat$Ways.spread(II)V, the place 173
set_option maxRecDepth 100000 in
set_option maxHeartbeats 8000000 in
theorem f_109_173 (μ : wm_M) (Q : Option Value → wm_M → Prop) (h : Q none μ) : wm_Wp 0 109 173 [.null, .null, .null, .null, .null, .null, .null] μ Q := wm_vc mo_109 (rt := none) (by decide +kernel) mc_109 206 h
-- WindBoat$Ways.lower(II)V
set_option maxRecDepth 100000 in
set_option maxHeartbeats 8000000 in
theorem f_110 (a1 : Int32) (a2 : Int32) (μ : wm_M) (Q : Option Value → wm_M → Prop) (h : (((120 : Int32) < a2 → wm_Wp 0 110 16 [.null, .null, .null] μ Q) ∧ (¬ (120 : Int32) < a2 → (vp_in a1 864 ∧ ((a2 < (μ.1 70 (a1).toNatClampNeg) → wm_Wp 0 110 17 [.ref 69, .int a1, .int a2] μ Q) ∧ (¬ a2 < (μ.1 70 (a1).toNatClampNeg) → wm_Wp 0 110 16 [.null, .null, .null] μ Q)))))) : wm_Ok 0 110 [.ref 69, .int a1, .int a2] μ Q := wm_ent (nL := 3) (l := [.ref 69, .int a1, .int a2]) (by decide +kernel) (by decide +kernel) (by decide +kernel) rfl rfl (wm_vc mo_110 (rt := none) (by decide +kernel) mc_110 134 h)
-- WindBoat$Ways.lower(II)V, the place 16
set_option maxRecDepth 100000 in
set_option maxHeartbeats 8000000 in
theorem f_110_16 (μ : wm_M) (Q : Option Value → wm_M → Prop) (h : Q none μ) : wm_Wp 0 110 16 [.null, .null, .null] μ Q := wm_vc mo_110 (rt := none) (by decide +kernel) mc_110 134 h
-- WindBoat$Ways.lower(II)V, the place 17
set_option maxRecDepth 100000 in
set_option maxHeartbeats 8000000 in
theorem f_110_17 (x1 : Int32) (x2 : Int32) (μ : wm_M) (Q : Option Value → wm_M → Prop) (h : (vp_in x1 864 ∧ (((μ.1 70 (x1).toNatClampNeg) = (999 : Int32) → wm_Wp 0 110 34 [.ref 69, .int x1, .int x2] μ Q) ∧ (¬ (μ.1 70 (x1).toNatClampNeg) = (999 : Int32) → wm_OkV 0 111 [.ref 69, .int x1] μ (fun μ1 => wm_Wp 0 110 34 [.ref 69, .int x1, .int x2] μ1 Q))))) : wm_Wp 0 110 17 [.ref 69, .int x1, .int x2] μ Q := wm_vc mo_110 (rt := none) (by decide +kernel) mc_110 134 h
-- WindBoat$Ways.lower(II)V, the place 34
set_option maxRecDepth 100000 in
set_option maxHeartbeats 8000000 in
theorem f_110_34 (x1 : Int32) (x2 : Int32) (μ : wm_M) (Q : Option Value → wm_M → Prop) (h : (vp_in x1 864 ∧ wm_Wp 0 110 41 [.ref 69, .int x1, .int x2] (wm_si μ 70 (x1).toNatClampNeg x2) Q)) : wm_Wp 0 110 34 [.ref 69, .int x1, .int x2] μ Q := wm_vc mo_110 (rt := none) (by decide +kernel) mc_110 134 h
-- WindBoat$Ways.lower(II)V, the place 41
set_option maxRecDepth 100000 in
set_option maxHeartbeats 8000000 in
theorem f_110_41 (x1 : Int32) (x2 : Int32) (μ : wm_M) (Q : Option Value → wm_M → Prop) (h : (vp_in x1 864 ∧ wm_Wp 0 110 48 [.ref 69, .int x1, .int x2] (wm_si μ 72 (x1).toNatClampNeg (-1 : Int32)) Q)) : wm_Wp 0 110 41 [.ref 69, .int x1, .int x2] μ Q := wm_vc mo_110 (rt := none) (by decide +kernel) mc_110 134 h
-- WindBoat$Ways.lower(II)V, the place 48
set_option maxRecDepth 100000 in
set_option maxHeartbeats 8000000 in
theorem f_110_48 (x1 : Int32) (x2 : Int32) (μ : wm_M) (Q : Option Value → wm_M → Prop) (h : (vp_in x2 121 ∧ (vp_in x1 864 ∧ wm_Wp 0 110 60 [.ref 69, .int x1, .int x2] (wm_si μ 71 (x1).toNatClampNeg (μ.1 73 (x2).toNatClampNeg)) Q))) : wm_Wp 0 110 48 [.ref 69, .int x1, .int x2] μ Q := wm_vc mo_110 (rt := none) (by decide +kernel) mc_110 134 h
-- WindBoat$Ways.lower(II)V, the place 60
set_option maxRecDepth 100000 in
set_option maxHeartbeats 8000000 in
theorem f_110_60 (x1 : Int32) (x2 : Int32) (μ : wm_M) (Q : Option Value → wm_M → Prop) (h : (vp_in x2 121 ∧ (((μ.1 73 (x2).toNatClampNeg) = (-1 : Int32) → wm_Wp 0 110 82 [.ref 69, .int x1, .int x2] μ Q) ∧ (¬ (μ.1 73 (x2).toNatClampNeg) = (-1 : Int32) → (vp_in x2 121 ∧ (vp_in (μ.1 73 (x2).toNatClampNeg) 864 ∧ wm_Wp 0 110 82 [.ref 69, .int x1, .int x2] (wm_si μ 72 ((μ.1 73 (x2).toNatClampNeg)).toNatClampNeg x1) Q)))))) : wm_Wp 0 110 60 [.ref 69, .int x1, .int x2] μ Q := wm_vc mo_110 (rt := none) (by decide +kernel) mc_110 134 h
-- WindBoat$Ways.lower(II)V, the place 82
set_option maxRecDepth 100000 in
set_option maxHeartbeats 8000000 in
theorem f_110_82 (x1 : Int32) (x2 : Int32) (μ : wm_M) (Q : Option Value → wm_M → Prop) (h : (vp_in x2 121 ∧ wm_Wp 0 110 89 [.null, .null, .null] (wm_si μ 73 (x2).toNatClampNeg x1) Q)) : wm_Wp 0 110 82 [.ref 69, .int x1, .int x2] μ Q := wm_vc mo_110 (rt := none) (by decide +kernel) mc_110 134 h
-- WindBoat$Ways.lower(II)V, the place 89
set_option maxRecDepth 100000 in
set_option maxHeartbeats 8000000 in
theorem f_110_89 (μ : wm_M) (Q : Option Value → wm_M → Prop) (h : Q none μ) : wm_Wp 0 110 89 [.null, .null, .null] μ Q := wm_vc mo_110 (rt := none) (by decide +kernel) mc_110 134 h
-- WindBoat$Ways.unlink(I)V
set_option maxRecDepth 100000 in
set_option maxHeartbeats 8000000 in
theorem f_111 (a1 : Int32) (μ : wm_M) (Q : Option Value → wm_M → Prop) (h : (vp_in a1 864 ∧ (((μ.1 72 (a1).toNatClampNeg) = (-1 : Int32) → (vp_in a1 864 ∧ (vp_in a1 864 ∧ (vp_in (μ.1 70 (a1).toNatClampNeg) 121 ∧ wm_Wp 0 111 27 [.ref 69, .int a1] (wm_si μ 73 ((μ.1 70 (a1).toNatClampNeg)).toNatClampNeg (μ.1 71 (a1).toNatClampNeg)) Q)))) ∧ (¬ (μ.1 72 (a1).toNatClampNeg) = (-1 : Int32) → wm_Wp 0 111 30 [.ref 69, .int a1] μ Q)))) : wm_Ok 0 111 [.ref 69, .int a1] μ Q := wm_ent (nL := 2) (l := [.ref 69, .int a1]) (by decide +kernel) (by decide +kernel) (by decide +kernel) rfl rfl (wm_vc mo_111 (rt := none) (by decide +kernel) mc_111 114 h)
-- WindBoat$Ways.unlink(I)V, the place 27
set_option maxRecDepth 100000 in
set_option maxHeartbeats 8000000 in
theorem f_111_27 (x1 : Int32) (μ : wm_M) (Q : Option Value → wm_M → Prop) (h : wm_Wp 0 111 47 [.ref 69, .int x1] μ Q) : wm_Wp 0 111 27 [.ref 69, .int x1] μ Q := wm_vc mo_111 (rt := none) (by decide +kernel) mc_111 114 h
-- WindBoat$Ways.unlink(I)V, the place 30
set_option maxRecDepth 100000 in
set_option maxHeartbeats 8000000 in
theorem f_111_30 (x1 : Int32) (μ : wm_M) (Q : Option Value → wm_M → Prop) (h : (vp_in x1 864 ∧ (vp_in x1 864 ∧ (vp_in (μ.1 72 (x1).toNatClampNeg) 864 ∧ wm_Wp 0 111 47 [.ref 69, .int x1] (wm_si μ 71 ((μ.1 72 (x1).toNatClampNeg)).toNatClampNeg (μ.1 71 (x1).toNatClampNeg)) Q)))) : wm_Wp 0 111 30 [.ref 69, .int x1] μ Q := wm_vc mo_111 (rt := none) (by decide +kernel) mc_111 114 h
-- WindBoat$Ways.unlink(I)V, the place 47
set_option maxRecDepth 100000 in
set_option maxHeartbeats 8000000 in
theorem f_111_47 (x1 : Int32) (μ : wm_M) (Q : Option Value → wm_M → Prop) (h : (vp_in x1 864 ∧ (((μ.1 71 (x1).toNatClampNeg) = (-1 : Int32) → wm_Wp 0 111 74 [.null, .null] μ Q) ∧ (¬ (μ.1 71 (x1).toNatClampNeg) = (-1 : Int32) → (vp_in x1 864 ∧ (vp_in x1 864 ∧ (vp_in (μ.1 71 (x1).toNatClampNeg) 864 ∧ wm_Wp 0 111 74 [.null, .null] (wm_si μ 72 ((μ.1 71 (x1).toNatClampNeg)).toNatClampNeg (μ.1 72 (x1).toNatClampNeg)) Q))))))) : wm_Wp 0 111 47 [.ref 69, .int x1] μ Q := wm_vc mo_111 (rt := none) (by decide +kernel) mc_111 114 h
-- WindBoat$Ways.unlink(I)V, the place 74
set_option maxRecDepth 100000 in
set_option maxHeartbeats 8000000 in
theorem f_111_74 (μ : wm_M) (Q : Option Value → wm_M → Prop) (h : Q none μ) : wm_Wp 0 111 74 [.null, .null] μ Q := wm_vc mo_111 (rt := none) (by decide +kernel) mc_111 114 h
-- WindBoat$Ways.makePlan(IIII)I
set_option maxRecDepth 100000 in
set_option maxHeartbeats 8000000 in
theorem f_112 (a1 : Int32) (a2 : Int32) (a3 : Int32) (a4 : Int32) (μ : wm_M) (Q : Option Value → wm_M → Prop) (h : wm_OkI 0 107 [.ref 69, .int a1, .int a2, .int a3, .int a4] μ (fun r2 μ1 => wm_Wp 0 112 11 [.ref 69, .int a1, .null, .null, .null, .int r2, .null, .null, .null] μ1 Q)) : wm_Ok 0 112 [.ref 69, .int a1, .int a2, .int a3, .int a4] μ Q := wm_ent (nL := 9) (l := [.ref 69, .int a1, .int a2, .int a3, .int a4, .null, .null, .null, .null]) (by decide +kernel) (by decide +kernel) (by decide +kernel) rfl rfl (wm_vc mo_112 (rt := some .int) (by decide +kernel) mc_112 146 h)
-- WindBoat$Ways.makePlan(IIII)I, the place 11
set_option maxRecDepth 100000 in
set_option maxHeartbeats 8000000 in
theorem f_112_11 (x1 : Int32) (x5 : Int32) (μ : wm_M) (Q : Option Value → wm_M → Prop) (h : ((x5 = (-1 : Int32) → Q (some (.int (-1 : Int32))) μ) ∧ (¬ x5 = (-1 : Int32) → wm_Wp 0 112 19 [.ref 69, .int x1, .null, .null, .null, .int x5, .null, .null, .null] μ Q))) : wm_Wp 0 112 11 [.ref 69, .int x1, .null, .null, .null, .int x5, .null, .null, .null] μ Q := wm_vc mo_112 (rt := some .int) (by decide +kernel) mc_112 146 h
-- WindBoat$Ways.makePlan(IIII)I, the place 19
set_option maxRecDepth 100000 in
set_option maxHeartbeats 8000000 in
theorem f_112_19 (x1 : Int32) (x5 : Int32) (μ : wm_M) (Q : Option Value → wm_M → Prop) (h : wm_Wp 0 112 25 [.ref 69, .int x1, .null, .null, .null, .int x5, .int (0 : Int32), .int (0 : Int32), .null] μ Q) : wm_Wp 0 112 19 [.ref 69, .int x1, .null, .null, .null, .int x5, .null, .null, .null] μ Q := wm_vc mo_112 (rt := some .int) (by decide +kernel) mc_112 146 h
-- WindBoat$Ways.makePlan(IIII)I, the place 25
set_option maxRecDepth 100000 in
set_option maxHeartbeats 8000000 in
theorem f_112_25 (x1 : Int32) (x5 : Int32) (x6 : Int32) (x7 : Int32) (μ : wm_M) (Q : Option Value → wm_M → Prop) (h : (((120 : Int32) ≤ x7 → wm_Wp 0 112 102 [.ref 69, .null, .null, .null, .null, .null, .int x6, .null, .null] μ Q) ∧ (¬ (120 : Int32) ≤ x7 → ((x5 = x1 → wm_Wp 0 112 102 [.ref 69, .null, .null, .null, .null, .null, .int x6, .null, .null] μ Q) ∧ (¬ x5 = x1 → wm_OkI 0 114 [.ref 69, .int x5] μ (fun r2 μ1 => wm_Wp 0 112 46 [.ref 69, .int x1, .null, .null, .null, .int x5, .int x6, .int x7, .int r2] μ1 Q)))))) : wm_Wp 0 112 25 [.ref 69, .int x1, .null, .null, .null, .int x5, .int x6, .int x7, .null] μ Q := wm_vc mo_112 (rt := some .int) (by decide +kernel) mc_112 146 h
-- WindBoat$Ways.makePlan(IIII)I, the place 46
set_option maxRecDepth 100000 in
set_option maxHeartbeats 8000000 in
theorem f_112_46 (x1 : Int32) (x5 : Int32) (x6 : Int32) (x7 : Int32) (x8 : Int32) (μ : wm_M) (Q : Option Value → wm_M → Prop) (h : ((x8 = (-1 : Int32) → Q (some (.int (-1 : Int32))) μ) ∧ (¬ x8 = (-1 : Int32) → wm_Wp 0 112 54 [.ref 69, .int x1, .null, .null, .null, .int x5, .int x6, .int x7, .int x8] μ Q))) : wm_Wp 0 112 46 [.ref 69, .int x1, .null, .null, .null, .int x5, .int x6, .int x7, .int x8] μ Q := wm_vc mo_112 (rt := some .int) (by decide +kernel) mc_112 146 h
-- WindBoat$Ways.makePlan(IIII)I, the place 54
set_option maxRecDepth 100000 in
set_option maxHeartbeats 8000000 in
theorem f_112_54 (x1 : Int32) (x5 : Int32) (x6 : Int32) (x7 : Int32) (x8 : Int32) (μ : wm_M) (Q : Option Value → wm_M → Prop) (h : (¬ (24 : Int32) = 0 ∧ (¬ (24 : Int32) = 0 ∧ (((x8 / (24 : Int32)) = (x5 / (24 : Int32)) → wm_Wp 0 112 92 [.ref 69, .int x1, .null, .null, .null, .null, .int x6, .int x7, .int x8] μ Q) ∧ (¬ (x8 / (24 : Int32)) = (x5 / (24 : Int32)) → (¬ (3 : Int32) = 0 ∧ (¬ (8 : Int32) = 0 ∧ (¬ (3 : Int32) = 0 ∧ (vp_in x6 121 ∧ wm_Wp 0 112 89 [.ref 69, .int x1, .null, .null, .null, .null, .int x6, .int x7, .int x8] (wm_si μ 74 (x6).toNatClampNeg (((10 : Int32) * ((x5 / (3 : Int32)) - (x5 / (3 : Int32)) / (8 : Int32) * (8 : Int32))) + (x5 - x5 / (3 : Int32) * (3 : Int32)))) Q))))))))) : wm_Wp 0 112 54 [.ref 69, .int x1, .null, .null, .null, .int x5, .int x6, .int x7, .int x8] μ Q := wm_vc mo_112 (rt := some .int) (by decide +kernel) mc_112 146 h
-- WindBoat$Ways.makePlan(IIII)I, the place 89
set_option maxRecDepth 100000 in
set_option maxHeartbeats 8000000 in
theorem f_112_89 (x1 : Int32) (x6 : Int32) (x7 : Int32) (x8 : Int32) (μ : wm_M) (Q : Option Value → wm_M → Prop) (h : wm_Wp 0 112 92 [.ref 69, .int x1, .null, .null, .null, .null, .int (x6 + (1 : Int32)), .int x7, .int x8] μ Q) : wm_Wp 0 112 89 [.ref 69, .int x1, .null, .null, .null, .null, .int x6, .int x7, .int x8] μ Q := wm_vc mo_112 (rt := some .int) (by decide +kernel) mc_112 146 h
-- WindBoat$Ways.makePlan(IIII)I, the place 92
set_option maxRecDepth 100000 in
set_option maxHeartbeats 8000000 in
theorem f_112_92 (x1 : Int32) (x6 : Int32) (x7 : Int32) (x8 : Int32) (μ : wm_M) (Q : Option Value → wm_M → Prop) (h : wm_Wp 0 112 25 [.ref 69, .int x1, .null, .null, .null, .int x8, .int x6, .int (x7 + (1 : Int32)), .null] μ Q) : wm_Wp 0 112 92 [.ref 69, .int x1, .null, .null, .null, .null, .int x6, .int x7, .int x8] μ Q := wm_vc mo_112 (rt := some .int) (by decide +kernel) mc_112 146 h
-- WindBoat$Ways.makePlan(IIII)I, the place 102
set_option maxRecDepth 100000 in
set_option maxHeartbeats 8000000 in
theorem f_112_102 (x6 : Int32) (μ : wm_M) (Q : Option Value → wm_M → Prop) (h : wm_OkV 0 113 [.ref 69, .int x6] μ (fun μ1 => wm_Wp 0 112 108 [.null, .null, .null, .null, .null, .null, .int x6, .null, .null] μ1 Q)) : wm_Wp 0 112 102 [.ref 69, .null, .null, .null, .null, .null, .int x6, .null, .null] μ Q := wm_vc mo_112 (rt := some .int) (by decide +kernel) mc_112 146 h
-- WindBoat$Ways.makePlan(IIII)I, the place 108
set_option maxRecDepth 100000 in
set_option maxHeartbeats 8000000 in
theorem f_112_108 (x6 : Int32) (μ : wm_M) (Q : Option Value → wm_M → Prop) (h : Q (some (.int x6)) μ) : wm_Wp 0 112 108 [.null, .null, .null, .null, .null, .null, .int x6, .null, .null] μ Q := wm_vc mo_112 (rt := some .int) (by decide +kernel) mc_112 146 h
-- WindBoat$Ways.turnRound(I)V
set_option maxRecDepth 100000 in
set_option maxHeartbeats 8000000 in
theorem f_113 (a1 : Int32) (μ : wm_M) (Q : Option Value → wm_M → Prop) (h : wm_Wp 0 113 2 [.ref 69, .int a1, .int (0 : Int32)] μ Q) : wm_Ok 0 113 [.ref 69, .int a1] μ Q := wm_ent (nL := 3) (l := [.ref 69, .int a1, .null]) (by decide +kernel) (by decide +kernel) (by decide +kernel) rfl rfl (wm_vc mo_113 (rt := none) (by decide +kernel) mc_113 80 h)
-- WindBoat$Ways.turnRound(I)V, the place 2
set_option maxRecDepth 100000 in
set_option maxHeartbeats 8000000 in
theorem f_113_2 (x1 : Int32) (x2 : Int32) (μ : wm_M) (Q : Option Value → wm_M → Prop) (h : (¬ (2 : Int32) = 0 ∧ (((x1 / (2 : Int32)) ≤ x2 → wm_Wp 0 113 43 [.null, .null, .null] μ Q) ∧ (¬ (x1 / (2 : Int32)) ≤ x2 → (vp_in ((x1 - (1 : Int32)) - x2) 121 ∧ wm_OkI 0 179 [.ref 74, .int x2, .int (μ.1 74 (((x1 - (1 : Int32)) - x2)).toNatClampNeg)] μ (fun r2 μ1 => (vp_in ((x1 - (1 : Int32)) - x2) 121 ∧ wm_Wp 0 113 37 [.ref 69, .int x1, .int x2] (wm_si μ1 74 (((x1 - (1 : Int32)) - x2)).toNatClampNeg r2) Q))))))) : wm_Wp 0 113 2 [.ref 69, .int x1, .int x2] μ Q := wm_vc mo_113 (rt := none) (by decide +kernel) mc_113 80 h
-- WindBoat$Ways.turnRound(I)V, the place 37
set_option maxRecDepth 100000 in
set_option maxHeartbeats 8000000 in
theorem f_113_37 (x1 : Int32) (x2 : Int32) (μ : wm_M) (Q : Option Value → wm_M → Prop) (h : wm_Wp 0 113 2 [.ref 69, .int x1, .int (x2 + (1 : Int32))] μ Q) : wm_Wp 0 113 37 [.ref 69, .int x1, .int x2] μ Q := wm_vc mo_113 (rt := none) (by decide +kernel) mc_113 80 h
-- WindBoat$Ways.turnRound(I)V, the place 43
set_option maxRecDepth 100000 in
set_option maxHeartbeats 8000000 in
theorem f_113_43 (μ : wm_M) (Q : Option Value → wm_M → Prop) (h : Q none μ) : wm_Wp 0 113 43 [.null, .null, .null] μ Q := wm_vc mo_113 (rt := none) (by decide +kernel) mc_113 80 h
-- WindBoat$Ways.cameFrom(I)I
set_option maxRecDepth 100000 in
set_option maxHeartbeats 8000000 in
theorem f_114 (a1 : Int32) (μ : wm_M) (Q : Option Value → wm_M → Prop) (h : (¬ (3 : Int32) = 0 ∧ (¬ (3 : Int32) = 0 ∧ (¬ (8 : Int32) = 0 ∧ (¬ (24 : Int32) = 0 ∧ wm_Wp 0 114 17 [.ref 69, .int a1, .int (a1 - a1 / (3 : Int32) * (3 : Int32)), .int ((a1 / (3 : Int32)) - (a1 / (3 : Int32)) / (8 : Int32) * (8 : Int32)), .int (a1 / (24 : Int32)), .null, .null, .null] μ Q))))) : wm_Ok 0 114 [.ref 69, .int a1] μ Q := wm_ent (nL := 8) (l := [.ref 69, .int a1, .null, .null, .null, .null, .null, .null]) (by decide +kernel) (by decide +kernel) (by decide +kernel) rfl rfl (wm_vc mo_114 (rt := some .int) (by decide +kernel) mc_114 296 h)
-- WindBoat$Ways.cameFrom(I)I, the place 17
set_option maxRecDepth 100000 in
set_option maxHeartbeats 8000000 in
theorem f_114_17 (x1 : Int32) (x2 : Int32) (x3 : Int32) (x4 : Int32) (μ : wm_M) (Q : Option Value → wm_M → Prop) (h : wm_Wp 0 114 25 [.ref 69, .int x1, .int x2, .int x3, .int x4, .int (864 : Int32), .int (0 : Int32), .null] μ Q) : wm_Wp 0 114 17 [.ref 69, .int x1, .int x2, .int x3, .int x4, .null, .null, .null] μ Q := wm_vc mo_114 (rt := some .int) (by decide +kernel) mc_114 296 h
-- WindBoat$Ways.cameFrom(I)I, the place 25
set_option maxRecDepth 100000 in
set_option maxHeartbeats 8000000 in
theorem f_114_25 (x1 : Int32) (x2 : Int32) (x3 : Int32) (x4 : Int32) (x5 : Int32) (x6 : Int32) (μ : wm_M) (Q : Option Value → wm_M → Prop) (h : (((8 : Int32) ≤ x6 → wm_Wp 0 114 86 [.ref 69, .int x1, .int x2, .int x3, .int x4, .int x5, .null, .null] μ Q) ∧ (¬ (8 : Int32) ≤ x6 → wm_OkI 0 183 [.int x4, .int x6, .int x2] μ (fun r2 μ1 => wm_Wp 0 114 42 [.ref 69, .int x1, .int x2, .int x3, .int x4, .int x5, .int x6, .int r2] μ1 Q)))) : wm_Wp 0 114 25 [.ref 69, .int x1, .int x2, .int x3, .int x4, .int x5, .int x6, .null] μ Q := wm_vc mo_114 (rt := some .int) (by decide +kernel) mc_114 296 h
-- WindBoat$Ways.cameFrom(I)I, the place 42
set_option maxRecDepth 100000 in
set_option maxHeartbeats 8000000 in
theorem f_114_42 (x1 : Int32) (x2 : Int32) (x3 : Int32) (x4 : Int32) (x5 : Int32) (x6 : Int32) (x7 : Int32) (μ : wm_M) (Q : Option Value → wm_M → Prop) (h : ((x6 = x3 → wm_Wp 0 114 80 [.ref 69, .int x1, .int x2, .int x3, .int x4, .int x5, .int x6, .null] μ Q) ∧ (¬ x6 = x3 → (vp_in x7 864 ∧ wm_OkI 0 181 [.int x6, .int x3] μ (fun r2 μ1 => (vp_in x1 864 ∧ (((μ1.1 70 (x1).toNatClampNeg) < ((μ.1 70 (x7).toNatClampNeg) + r2) → wm_Wp 0 114 80 [.ref 69, .int x1, .int x2, .int x3, .int x4, .int x5, .int x6, .null] μ1 Q) ∧ (¬ (μ1.1 70 (x1).toNatClampNeg) < ((μ.1 70 (x7).toNatClampNeg) + r2) → wm_Wp 0 114 71 [.ref 69, .int x1, .int x2, .int x3, .int x4, .int x5, .int x6, .int x7] μ1 Q)))))))) : wm_Wp 0 114 42 [.ref 69, .int x1, .int x2, .int x3, .int x4, .int x5, .int x6, .int x7] μ Q := wm_vc mo_114 (rt := some .int) (by decide +kernel) mc_114 296 h
-- WindBoat$Ways.cameFrom(I)I, the place 71
set_option maxRecDepth 100000 in
set_option maxHeartbeats 8000000 in
theorem f_114_71 (x1 : Int32) (x2 : Int32) (x3 : Int32) (x4 : Int32) (x5 : Int32) (x6 : Int32) (x7 : Int32) (μ : wm_M) (Q : Option Value → wm_M → Prop) (h : wm_Wp 0 114 80 [.ref 69, .int x1, .int x2, .int x3, .int x4, .int (if x7 < x5 then x7 else x5), .int x6, .null] μ Q) : wm_Wp 0 114 71 [.ref 69, .int x1, .int x2, .int x3, .int x4, .int x5, .int x6, .int x7] μ Q := wm_vc mo_114 (rt := some .int) (by decide +kernel) mc_114 296 h
-- WindBoat$Ways.cameFrom(I)I, the place 80
set_option maxRecDepth 100000 in
set_option maxHeartbeats 8000000 in
theorem f_114_80 (x1 : Int32) (x2 : Int32) (x3 : Int32) (x4 : Int32) (x5 : Int32) (x6 : Int32) (μ : wm_M) (Q : Option Value → wm_M → Prop) (h : wm_Wp 0 114 25 [.ref 69, .int x1, .int x2, .int x3, .int x4, .int x5, .int (x6 + (1 : Int32)), .null] μ Q) : wm_Wp 0 114 80 [.ref 69, .int x1, .int x2, .int x3, .int x4, .int x5, .int x6, .null] μ Q := wm_vc mo_114 (rt := some .int) (by decide +kernel) mc_114 296 h
-- WindBoat$Ways.cameFrom(I)I, the place 86
set_option maxRecDepth 100000 in
set_option maxHeartbeats 8000000 in
theorem f_114_86 (x1 : Int32) (x2 : Int32) (x3 : Int32) (x4 : Int32) (x5 : Int32) (μ : wm_M) (Q : Option Value → wm_M → Prop) (h : wm_Wp 0 114 89 [.ref 69, .int x1, .int x2, .int x3, .int x4, .int x5, .int (0 : Int32), .null] μ Q) : wm_Wp 0 114 86 [.ref 69, .int x1, .int x2, .int x3, .int x4, .int x5, .null, .null] μ Q := wm_vc mo_114 (rt := some .int) (by decide +kernel) mc_114 296 h
-- WindBoat$Ways.cameFrom(I)I, the place 89
set_option maxRecDepth 100000 in
set_option maxHeartbeats 8000000 in
theorem f_114_89 (x1 : Int32) (x2 : Int32) (x3 : Int32) (x4 : Int32) (x5 : Int32) (x6 : Int32) (μ : wm_M) (Q : Option Value → wm_M → Prop) (h : (((3 : Int32) ≤ x6 → wm_Wp 0 114 160 [.ref 69, .int x1, .int x2, .int x3, .int x4, .int x5, .null, .null] μ Q) ∧ (¬ (3 : Int32) ≤ x6 → (vp_in x2 3 ∧ (((μ.1 15 (x2).toNatClampNeg) = (0 : Int32) → wm_Wp 0 114 118 [.ref 69, .int x1, .int x2, .int x3, .int x4, .int x5, .int x6, .int ((x1 - x2) + x6)] μ Q) ∧ (¬ (μ.1 15 (x2).toNatClampNeg) = (0 : Int32) → wm_Wp 0 114 160 [.ref 69, .int x1, .int x2, .int x3, .int x4, .int x5, .null, .null] μ Q)))))) : wm_Wp 0 114 89 [.ref 69, .int x1, .int x2, .int x3, .int x4, .int x5, .int x6, .null] μ Q := wm_vc mo_114 (rt := some .int) (by decide +kernel) mc_114 296 h
-- WindBoat$Ways.cameFrom(I)I, the place 118
set_option maxRecDepth 100000 in
set_option maxHeartbeats 8000000 in
theorem f_114_118 (x1 : Int32) (x2 : Int32) (x3 : Int32) (x4 : Int32) (x5 : Int32) (x6 : Int32) (x7 : Int32) (μ : wm_M) (Q : Option Value → wm_M → Prop) (h : ((x6 = x2 → wm_Wp 0 114 154 [.ref 69, .int x1, .int x2, .int x3, .int x4, .int x5, .int x6, .null] μ Q) ∧ (¬ x6 = x2 → (vp_in x7 864 ∧ (vp_in x1 864 ∧ (((μ.1 70 (x1).toNatClampNeg) < ((μ.1 70 (x7).toNatClampNeg) + (μ.1 69 7)) → wm_Wp 0 114 154 [.ref 69, .int x1, .int x2, .int x3, .int x4, .int x5, .int x6, .null] μ Q) ∧ (¬ (μ.1 70 (x1).toNatClampNeg) < ((μ.1 70 (x7).toNatClampNeg) + (μ.1 69 7)) → wm_Wp 0 114 145 [.ref 69, .int x1, .int x2, .int x3, .int x4, .int x5, .int x6, .int x7] μ Q))))))) : wm_Wp 0 114 118 [.ref 69, .int x1, .int x2, .int x3, .int x4, .int x5, .int x6, .int x7] μ Q := wm_vc mo_114 (rt := some .int) (by decide +kernel) mc_114 296 h
-- WindBoat$Ways.cameFrom(I)I, the place 145
set_option maxRecDepth 100000 in
set_option maxHeartbeats 8000000 in
theorem f_114_145 (x1 : Int32) (x2 : Int32) (x3 : Int32) (x4 : Int32) (x5 : Int32) (x6 : Int32) (x7 : Int32) (μ : wm_M) (Q : Option Value → wm_M → Prop) (h : wm_Wp 0 114 154 [.ref 69, .int x1, .int x2, .int x3, .int x4, .int (if x7 < x5 then x7 else x5), .int x6, .null] μ Q) : wm_Wp 0 114 145 [.ref 69, .int x1, .int x2, .int x3, .int x4, .int x5, .int x6, .int x7] μ Q := wm_vc mo_114 (rt := some .int) (by decide +kernel) mc_114 296 h
-- WindBoat$Ways.cameFrom(I)I, the place 154
set_option maxRecDepth 100000 in
set_option maxHeartbeats 8000000 in
theorem f_114_154 (x1 : Int32) (x2 : Int32) (x3 : Int32) (x4 : Int32) (x5 : Int32) (x6 : Int32) (μ : wm_M) (Q : Option Value → wm_M → Prop) (h : wm_Wp 0 114 89 [.ref 69, .int x1, .int x2, .int x3, .int x4, .int x5, .int (x6 + (1 : Int32)), .null] μ Q) : wm_Wp 0 114 154 [.ref 69, .int x1, .int x2, .int x3, .int x4, .int x5, .int x6, .null] μ Q := wm_vc mo_114 (rt := some .int) (by decide +kernel) mc_114 296 h
-- WindBoat$Ways.cameFrom(I)I, the place 160
set_option maxRecDepth 100000 in
set_option maxHeartbeats 8000000 in
theorem f_114_160 (x1 : Int32) (x2 : Int32) (x3 : Int32) (x4 : Int32) (x5 : Int32) (μ : wm_M) (Q : Option Value → wm_M → Prop) (h : (¬ (8 : Int32) = 0 ∧ wm_OkI 0 182 [.int x4, .int ((x3 + (4 : Int32)) - (x3 + (4 : Int32)) / (8 : Int32) * (8 : Int32))] μ (fun r2 μ1 => wm_Wp 0 114 173 [.ref 69, .int x1, .int x2, .int x3, .null, .int x5, .int r2, .null] μ1 Q))) : wm_Wp 0 114 160 [.ref 69, .int x1, .int x2, .int x3, .int x4, .int x5, .null, .null] μ Q := wm_vc mo_114 (rt := some .int) (by decide +kernel) mc_114 296 h
-- WindBoat$Ways.cameFrom(I)I, the place 173
set_option maxRecDepth 100000 in
set_option maxHeartbeats 8000000 in
theorem f_114_173 (x1 : Int32) (x2 : Int32) (x3 : Int32) (x5 : Int32) (x6 : Int32) (μ : wm_M) (Q : Option Value → wm_M → Prop) (h : ((x6 = (-1 : Int32) → wm_Wp 0 114 240 [.null, .null, .null, .null, .null, .int x5, .null, .null] μ Q) ∧ (¬ x6 = (-1 : Int32) → wm_OkI 0 183 [.int x6, .int x3, .int x2] μ (fun r2 μ1 => wm_Wp 0 114 188 [.ref 69, .int x1, .int x2, .int x3, .null, .int x5, .int x6, .int r2] μ1 Q)))) : wm_Wp 0 114 173 [.ref 69, .int x1, .int x2, .int x3, .null, .int x5, .int x6, .null] μ Q := wm_vc mo_114 (rt := some .int) (by decide +kernel) mc_114 296 h
-- WindBoat$Ways.cameFrom(I)I, the place 188
set_option maxRecDepth 100000 in
set_option maxHeartbeats 8000000 in
theorem f_114_188 (x1 : Int32) (x2 : Int32) (x3 : Int32) (x5 : Int32) (x6 : Int32) (x7 : Int32) (μ : wm_M) (Q : Option Value → wm_M → Prop) (h : (vp_in x7 864 ∧ (vp_in x1 864 ∧ (((μ.1 70 (x1).toNatClampNeg) ≤ (μ.1 70 (x7).toNatClampNeg) → wm_Wp 0 114 240 [.null, .null, .null, .null, .null, .int x5, .null, .null] μ Q) ∧ (¬ (μ.1 70 (x1).toNatClampNeg) ≤ (μ.1 70 (x7).toNatClampNeg) → (vp_in x7 864 ∧ (vp_in x1 864 ∧ wm_OkI 0 25 [.ref 62, .int x6, .int x3, .int x2, .int (μ.1 70 (x7).toNatClampNeg), .int (μ.1 70 (x1).toNatClampNeg)] μ (fun r2 μ1 => ((r2 = (0 : Int32) → wm_Wp 0 114 240 [.null, .null, .null, .null, .null, .int x5, .null, .null] μ1 Q) ∧ (¬ r2 = (0 : Int32) → wm_Wp 0 114 231 [.null, .null, .null, .null, .null, .int x5, .null, .int x7] μ1 Q)))))))))) : wm_Wp 0 114 188 [.ref 69, .int x1, .int x2, .int x3, .null, .int x5, .int x6, .int x7] μ Q := wm_vc mo_114 (rt := some .int) (by decide +kernel) mc_114 296 h
-- WindBoat$Ways.cameFrom(I)I, the place 231
set_option maxRecDepth 100000 in
set_option maxHeartbeats 8000000 in
theorem f_114_231 (x5 : Int32) (x7 : Int32) (μ : wm_M) (Q : Option Value → wm_M → Prop) (h : wm_Wp 0 114 240 [.null, .null, .null, .null, .null, .int (if x7 < x5 then x7 else x5), .null, .null] μ Q) : wm_Wp 0 114 231 [.null, .null, .null, .null, .null, .int x5, .null, .int x7] μ Q := wm_vc mo_114 (rt := some .int) (by decide +kernel) mc_114 296 h
-- WindBoat$Ways.cameFrom(I)I, the place 240
set_option maxRecDepth 100000 in
set_option maxHeartbeats 8000000 in
theorem f_114_240 (x5 : Int32) (μ : wm_M) (Q : Option Value → wm_M → Prop) (h : ((x5 = (864 : Int32) → Q (some (.int (-1 : Int32))) μ) ∧ (¬ x5 = (864 : Int32) → wm_Wp 0 114 252 [.null, .null, .null, .null, .null, .int x5, .null, .null] μ Q))) : wm_Wp 0 114 240 [.null, .null, .null, .null, .null, .int x5, .null, .null] μ Q := wm_vc mo_114 (rt := some .int) (by decide +kernel) mc_114 296 h
-- WindBoat$Ways.cameFrom(I)I, the place 252
set_option maxRecDepth 100000 in
set_option maxHeartbeats 8000000 in
theorem f_114_252 (x5 : Int32) (μ : wm_M) (Q : Option Value → wm_M → Prop) (h : Q (some (.int x5)) μ) : wm_Wp 0 114 252 [.null, .null, .null, .null, .null, .int x5, .null, .null] μ Q := wm_vc mo_114 (rt := some .int) (by decide +kernel) mc_114 296 h
-- WindBoat.cell(III)I
set_option maxRecDepth 100000 in
set_option maxHeartbeats 8000000 in
theorem f_116 (a1 : Int32) (a2 : Int32) (a3 : Int32) (μ : wm_M) (Q : Option Value → wm_M → Prop) (h : wm_OkI 0 167 [.int a1] μ (fun r2 μ1 => ((r2 = (0 : Int32) → wm_Wp 0 116 7 [.ref 0, .null, .null, .null, .null, .null] μ1 Q) ∧ (¬ r2 = (0 : Int32) → wm_Wp 0 116 14 [.ref 0, .int a1, .int a2, .int a3, .null, .null] μ1 Q)))) : wm_Ok 0 116 [.ref 0, .int a1, .int a2, .int a3] μ Q := wm_ent (nL := 6) (l := [.ref 0, .int a1, .int a2, .int a3, .null, .null]) (by decide +kernel) (by decide +kernel) (by decide +kernel) rfl rfl (wm_vc mo_116 (rt := some .int) (by decide +kernel) mc_116 112 h)
-- WindBoat.cell(III)I, the place 7
set_option maxRecDepth 100000 in
set_option maxHeartbeats 8000000 in
theorem f_116_7 (μ : wm_M) (Q : Option Value → wm_M → Prop) (h : wm_OkI 0 161 [.ref 0, .int (-3 : Int32)] μ (fun r2 μ1 => Q (some (.int r2)) μ1)) : wm_Wp 0 116 7 [.ref 0, .null, .null, .null, .null, .null] μ Q := wm_vc mo_116 (rt := some .int) (by decide +kernel) mc_116 112 h
-- WindBoat.cell(III)I, the place 14
set_option maxRecDepth 100000 in
set_option maxHeartbeats 8000000 in
theorem f_116_14 (x1 : Int32) (x2 : Int32) (x3 : Int32) (μ : wm_M) (Q : Option Value → wm_M → Prop) (h : wm_OkI 0 176 [.int x2] μ (fun r2 μ1 => ((r2 = (0 : Int32) → wm_Wp 0 116 31 [.ref 0, .null, .null, .null, .null, .null] μ1 Q) ∧ (¬ r2 = (0 : Int32) → wm_Wp 0 116 21 [.ref 0, .int x1, .int x2, .int x3, .null, .null] μ1 Q)))) : wm_Wp 0 116 14 [.ref 0, .int x1, .int x2, .int x3, .null, .null] μ Q := wm_vc mo_116 (rt := some .int) (by decide +kernel) mc_116 112 h
-- WindBoat.cell(III)I, the place 21
set_option maxRecDepth 100000 in
set_option maxHeartbeats 8000000 in
theorem f_116_21 (x1 : Int32) (x2 : Int32) (x3 : Int32) (μ : wm_M) (Q : Option Value → wm_M → Prop) (h : wm_OkI 0 178 [.int x3, .int (0 : Int32), .int (90 : Int32)] μ (fun r2 μ1 => ((r2 = (0 : Int32) → wm_Wp 0 116 31 [.ref 0, .null, .null, .null, .null, .null] μ1 Q) ∧ (¬ r2 = (0 : Int32) → wm_Wp 0 116 38 [.ref 0, .int x1, .int x2, .int x3, .null, .null] μ1 Q)))) : wm_Wp 0 116 21 [.ref 0, .int x1, .int x2, .int x3, .null, .null] μ Q := wm_vc mo_116 (rt := some .int) (by decide +kernel) mc_116 112 h
-- WindBoat.cell(III)I, the place 31
set_option maxRecDepth 100000 in
set_option maxHeartbeats 8000000 in
theorem f_116_31 (μ : wm_M) (Q : Option Value → wm_M → Prop) (h : wm_OkI 0 161 [.ref 0, .int (-7 : Int32)] μ (fun r2 μ1 => Q (some (.int r2)) μ1)) : wm_Wp 0 116 31 [.ref 0, .null, .null, .null, .null, .null] μ Q := wm_vc mo_116 (rt := some .int) (by decide +kernel) mc_116 112 h
-- WindBoat.cell(III)I, the place 38
set_option maxRecDepth 100000 in
set_option maxHeartbeats 8000000 in
theorem f_116_38 (x1 : Int32) (x2 : Int32) (x3 : Int32) (μ : wm_M) (Q : Option Value → wm_M → Prop) (h : wm_OkR 0 163 [.ref 0] μ (fun μ1 => wm_Wp 0 116 47 [.null, .int x1, .int x2, .int x3, .ref 2, .null] μ1 Q)) : wm_Wp 0 116 38 [.ref 0, .int x1, .int x2, .int x3, .null, .null] μ Q := wm_vc mo_116 (rt := some .int) (by decide +kernel) mc_116 112 h
-- WindBoat.cell(III)I, the place 47
set_option maxRecDepth 100000 in
set_option maxHeartbeats 8000000 in
theorem f_116_47 (x1 : Int32) (x2 : Int32) (x3 : Int32) (μ : wm_M) (Q : Option Value → wm_M → Prop) (h : (vp_in x1 36 ∧ ((x2 = (1 : Int32) → (vp_in x1 36 ∧ wm_Wp 0 116 73 [.null, .int x1, .null, .int x3, .ref 2, .int (μ.1 3 (x1).toNatClampNeg)] (wm_si μ 3 (x1).toNatClampNeg (vp_nar .boolean (1 : Int32))) Q)) ∧ (¬ x2 = (1 : Int32) → (vp_in x1 36 ∧ wm_Wp 0 116 73 [.null, .int x1, .null, .int x3, .ref 2, .int (μ.1 3 (x1).toNatClampNeg)] (wm_si μ 3 (x1).toNatClampNeg (vp_nar .boolean (0 : Int32))) Q))))) : wm_Wp 0 116 47 [.null, .int x1, .int x2, .int x3, .ref 2, .null] μ Q := wm_vc mo_116 (rt := some .int) (by decide +kernel) mc_116 112 h
-- WindBoat.cell(III)I, the place 73
set_option maxRecDepth 100000 in
set_option maxHeartbeats 8000000 in
theorem f_116_73 (x1 : Int32) (x3 : Int32) (x5 : Int32) (μ : wm_M) (Q : Option Value → wm_M → Prop) (h : (vp_in x1 36 ∧ wm_Wp 0 116 81 [.null, .null, .null, .null, .null, .int x5] (wm_si μ 4 (x1).toNatClampNeg x3) Q)) : wm_Wp 0 116 73 [.null, .int x1, .null, .int x3, .ref 2, .int x5] μ Q := wm_vc mo_116 (rt := some .int) (by decide +kernel) mc_116 112 h
-- WindBoat.cell(III)I, the place 81
set_option maxRecDepth 100000 in
set_option maxHeartbeats 8000000 in
theorem f_116_81 (x5 : Int32) (μ : wm_M) (Q : Option Value → wm_M → Prop) (h : wm_OkI 0 177 [.int x5] μ (fun r2 μ1 => Q (some (.int r2)) μ1)) : wm_Wp 0 116 81 [.null, .null, .null, .null, .null, .int x5] μ Q := wm_vc mo_116 (rt := some .int) (by decide +kernel) mc_116 112 h
-- WindBoat.wind(III)I
set_option maxRecDepth 100000 in
set_option maxHeartbeats 8000000 in
theorem f_117 (a1 : Int32) (a2 : Int32) (a3 : Int32) (μ : wm_M) (Q : Option Value → wm_M → Prop) (h : wm_OkI 0 171 [.int a1] μ (fun r2 μ1 => ((r2 = (0 : Int32) → wm_Wp 0 117 7 [.ref 0, .null, .null, .null, .null, .null, .null] μ1 Q) ∧ (¬ r2 = (0 : Int32) → wm_Wp 0 117 14 [.ref 0, .int a1, .int a2, .int a3, .null, .null, .null] μ1 Q)))) : wm_Ok 0 117 [.ref 0, .int a1, .int a2, .int a3] μ Q := wm_ent (nL := 7) (l := [.ref 0, .int a1, .int a2, .int a3, .null, .null, .null]) (by decide +kernel) (by decide +kernel) (by decide +kernel) rfl rfl (wm_vc mo_117 (rt := some .int) (by decide +kernel) mc_117 124 h)
-- WindBoat.wind(III)I, the place 7
set_option maxRecDepth 100000 in
set_option maxHeartbeats 8000000 in
theorem f_117_7 (μ : wm_M) (Q : Option Value → wm_M → Prop) (h : wm_OkI 0 161 [.ref 0, .int (-3 : Int32)] μ (fun r2 μ1 => Q (some (.int r2)) μ1)) : wm_Wp 0 117 7 [.ref 0, .null, .null, .null, .null, .null, .null] μ Q := wm_vc mo_117 (rt := some .int) (by decide +kernel) mc_117 124 h
-- WindBoat.wind(III)I, the place 14
set_option maxRecDepth 100000 in
set_option maxHeartbeats 8000000 in
theorem f_117_14 (x1 : Int32) (x2 : Int32) (x3 : Int32) (μ : wm_M) (Q : Option Value → wm_M → Prop) (h : wm_OkI 0 178 [.int x2, .int (0 : Int32), .int (7 : Int32)] μ (fun r2 μ1 => ((r2 = (0 : Int32) → wm_Wp 0 117 34 [.ref 0, .null, .null, .null, .null, .null, .null] μ1 Q) ∧ (¬ r2 = (0 : Int32) → wm_Wp 0 117 24 [.ref 0, .int x1, .int x2, .int x3, .null, .null, .null] μ1 Q)))) : wm_Wp 0 117 14 [.ref 0, .int x1, .int x2, .int x3, .null, .null, .null] μ Q := wm_vc mo_117 (rt := some .int) (by decide +kernel) mc_117 124 h
-- WindBoat.wind(III)I, the place 24
set_option maxRecDepth 100000 in
set_option maxHeartbeats 8000000 in
theorem f_117_24 (x1 : Int32) (x2 : Int32) (x3 : Int32) (μ : wm_M) (Q : Option Value → wm_M → Prop) (h : wm_OkI 0 178 [.int x3, .int (0 : Int32), .int (39 : Int32)] μ (fun r2 μ1 => ((r2 = (0 : Int32) → wm_Wp 0 117 34 [.ref 0, .null, .null, .null, .null, .null, .null] μ1 Q) ∧ (¬ r2 = (0 : Int32) → wm_Wp 0 117 41 [.ref 0, .int x1, .int x2, .int x3, .null, .null, .null] μ1 Q)))) : wm_Wp 0 117 24 [.ref 0, .int x1, .int x2, .int x3, .null, .null, .null] μ Q := wm_vc mo_117 (rt := some .int) (by decide +kernel) mc_117 124 h
-- WindBoat.wind(III)I, the place 34
set_option maxRecDepth 100000 in
set_option maxHeartbeats 8000000 in
theorem f_117_34 (μ : wm_M) (Q : Option Value → wm_M → Prop) (h : wm_OkI 0 161 [.ref 0, .int (-7 : Int32)] μ (fun r2 μ1 => Q (some (.int r2)) μ1)) : wm_Wp 0 117 34 [.ref 0, .null, .null, .null, .null, .null, .null] μ Q := wm_vc mo_117 (rt := some .int) (by decide +kernel) mc_117 124 h
-- WindBoat.wind(III)I, the place 41
set_option maxRecDepth 100000 in
set_option maxHeartbeats 8000000 in
theorem f_117_41 (x1 : Int32) (x2 : Int32) (x3 : Int32) (μ : wm_M) (Q : Option Value → wm_M → Prop) (h : wm_OkR 0 163 [.ref 0] μ (fun μ1 => wm_Wp 0 117 50 [.null, .int x1, .int x2, .int x3, .ref 2, .null, .null] μ1 Q)) : wm_Wp 0 117 41 [.ref 0, .int x1, .int x2, .int x3, .null, .null, .null] μ Q := wm_vc mo_117 (rt := some .int) (by decide +kernel) mc_117 124 h
-- WindBoat.wind(III)I, the place 50
set_option maxRecDepth 100000 in
set_option maxHeartbeats 8000000 in
theorem f_117_50 (x1 : Int32) (x2 : Int32) (x3 : Int32) (μ : wm_M) (Q : Option Value → wm_M → Prop) (h : (¬ (10 : Int32) = 0 ∧ (¬ (10 : Int32) = 0 ∧ (vp_in (((x1 - x1 / (10 : Int32) * (10 : Int32)) * (12 : Int32)) + (x1 / (10 : Int32))) 84 ∧ wm_Wp 0 117 74 [.null, .null, .int x2, .int x3, .ref 2, .int (((x1 - x1 / (10 : Int32) * (10 : Int32)) * (12 : Int32)) + (x1 / (10 : Int32))), .int (μ.1 6 ((((x1 - x1 / (10 : Int32) * (10 : Int32)) * (12 : Int32)) + (x1 / (10 : Int32)))).toNatClampNeg)] μ Q)))) : wm_Wp 0 117 50 [.null, .int x1, .int x2, .int x3, .ref 2, .null, .null] μ Q := wm_vc mo_117 (rt := some .int) (by decide +kernel) mc_117 124 h
-- WindBoat.wind(III)I, the place 74
set_option maxRecDepth 100000 in
set_option maxHeartbeats 8000000 in
theorem f_117_74 (x2 : Int32) (x3 : Int32) (x5 : Int32) (x6 : Int32) (μ : wm_M) (Q : Option Value → wm_M → Prop) (h : (vp_in x5 84 ∧ wm_Wp 0 117 83 [.null, .null, .null, .int x3, .ref 2, .int x5, .int x6] (wm_si μ 5 (x5).toNatClampNeg x2) Q)) : wm_Wp 0 117 74 [.null, .null, .int x2, .int x3, .ref 2, .int x5, .int x6] μ Q := wm_vc mo_117 (rt := some .int) (by decide +kernel) mc_117 124 h
-- WindBoat.wind(III)I, the place 83
set_option maxRecDepth 100000 in
set_option maxHeartbeats 8000000 in
theorem f_117_83 (x3 : Int32) (x5 : Int32) (x6 : Int32) (μ : wm_M) (Q : Option Value → wm_M → Prop) (h : (vp_in x5 84 ∧ wm_Wp 0 117 92 [.null, .null, .null, .null, .null, .null, .int x6] (wm_si μ 6 (x5).toNatClampNeg x3) Q)) : wm_Wp 0 117 83 [.null, .null, .null, .int x3, .ref 2, .int x5, .int x6] μ Q := wm_vc mo_117 (rt := some .int) (by decide +kernel) mc_117 124 h
-- WindBoat.wind(III)I, the place 92
set_option maxRecDepth 100000 in
set_option maxHeartbeats 8000000 in
theorem f_117_92 (x6 : Int32) (μ : wm_M) (Q : Option Value → wm_M → Prop) (h : Q (some (.int x6)) μ) : wm_Wp 0 117 92 [.null, .null, .null, .null, .null, .null, .int x6] μ Q := wm_vc mo_117 (rt := some .int) (by decide +kernel) mc_117 124 h
-- WindBoat.blows(III)I
set_option maxRecDepth 100000 in
set_option maxHeartbeats 8000000 in
theorem f_118 (a1 : Int32) (a2 : Int32) (a3 : Int32) (μ : wm_M) (Q : Option Value → wm_M → Prop) (h : wm_OkI 0 171 [.int a1] μ (fun r2 μ1 => ((r2 = (0 : Int32) → wm_Wp 0 118 14 [.ref 0, .null, .null, .null, .null, .null] μ1 Q) ∧ (¬ r2 = (0 : Int32) → wm_Wp 0 118 7 [.ref 0, .int a1, .int a2, .int a3, .null, .null] μ1 Q)))) : wm_Ok 0 118 [.ref 0, .int a1, .int a2, .int a3] μ Q := wm_ent (nL := 6) (l := [.ref 0, .int a1, .int a2, .int a3, .null, .null]) (by decide +kernel) (by decide +kernel) (by decide +kernel) rfl rfl (wm_vc mo_118 (rt := some .int) (by decide +kernel) mc_118 128 h)
-- WindBoat.blows(III)I, the place 7
set_option maxRecDepth 100000 in
set_option maxHeartbeats 8000000 in
theorem f_118_7 (x1 : Int32) (x2 : Int32) (x3 : Int32) (μ : wm_M) (Q : Option Value → wm_M → Prop) (h : wm_OkI 0 167 [.int x2] μ (fun r2 μ1 => ((r2 = (0 : Int32) → wm_Wp 0 118 14 [.ref 0, .null, .null, .null, .null, .null] μ1 Q) ∧ (¬ r2 = (0 : Int32) → wm_Wp 0 118 21 [.ref 0, .int x1, .int x2, .int x3, .null, .null] μ1 Q)))) : wm_Wp 0 118 7 [.ref 0, .int x1, .int x2, .int x3, .null, .null] μ Q := wm_vc mo_118 (rt := some .int) (by decide +kernel) mc_118 128 h
-- WindBoat.blows(III)I, the place 14
set_option maxRecDepth 100000 in
set_option maxHeartbeats 8000000 in
theorem f_118_14 (μ : wm_M) (Q : Option Value → wm_M → Prop) (h : wm_OkI 0 161 [.ref 0, .int (-3 : Int32)] μ (fun r2 μ1 => Q (some (.int r2)) μ1)) : wm_Wp 0 118 14 [.ref 0, .null, .null, .null, .null, .null] μ Q := wm_vc mo_118 (rt := some .int) (by decide +kernel) mc_118 128 h
-- WindBoat.blows(III)I, the place 21
set_option maxRecDepth 100000 in
set_option maxHeartbeats 8000000 in
theorem f_118_21 (x1 : Int32) (x2 : Int32) (x3 : Int32) (μ : wm_M) (Q : Option Value → wm_M → Prop) (h : (¬ (10 : Int32) = 0 ∧ (¬ (10 : Int32) = 0 ∧ (((x3).toInt < 0 ∨ 3 < (x3).toInt → wm_Wp 0 118 128 [.ref 0, .null, .null, .null, .null, .null] μ Q) ∧ (((x3).toInt = 0 → wm_Wp 0 118 64 [.ref 0, .null, .null, .null, .int (x1 - x1 / (10 : Int32) * (10 : Int32)), .int (x1 / (10 : Int32))] μ Q) ∧ (((x3).toInt = 1 → wm_Wp 0 118 79 [.ref 0, .null, .null, .null, .int (x1 - x1 / (10 : Int32) * (10 : Int32)), .int (x1 / (10 : Int32))] μ Q) ∧ (((x3).toInt = 2 → wm_Wp 0 118 94 [.ref 0, .null, .int x2, .null, .int (x1 - x1 / (10 : Int32) * (10 : Int32)), .int (x1 / (10 : Int32))] μ Q) ∧ (((x3).toInt = 3 → wm_Wp 0 118 110 [.ref 0, .null, .null, .null, .int (x1 - x1 / (10 : Int32) * (10 : Int32)), .int (x1 / (10 : Int32))] μ Q) ∧ True)))))))) : wm_Wp 0 118 21 [.ref 0, .int x1, .int x2, .int x3, .null, .null] μ Q := wm_vc mo_118 (rt := some .int) (by decide +kernel) mc_118 128 h
-- WindBoat.blows(III)I, the place 64
set_option maxRecDepth 100000 in
set_option maxHeartbeats 8000000 in
theorem f_118_64 (x4 : Int32) (x5 : Int32) (μ : wm_M) (Q : Option Value → wm_M → Prop) (h : wm_OkI 0 71 [.ref 2, .int x4, .int x5] μ (fun r2 μ1 => Q (some (.int r2)) μ1)) : wm_Wp 0 118 64 [.ref 0, .null, .null, .null, .int x4, .int x5] μ Q := wm_vc mo_118 (rt := some .int) (by decide +kernel) mc_118 128 h
-- WindBoat.blows(III)I, the place 79
set_option maxRecDepth 100000 in
set_option maxHeartbeats 8000000 in
theorem f_118_79 (x4 : Int32) (x5 : Int32) (μ : wm_M) (Q : Option Value → wm_M → Prop) (h : wm_OkI 0 72 [.ref 2, .int x4, .int x5] μ (fun r2 μ1 => Q (some (.int r2)) μ1)) : wm_Wp 0 118 79 [.ref 0, .null, .null, .null, .int x4, .int x5] μ Q := wm_vc mo_118 (rt := some .int) (by decide +kernel) mc_118 128 h
-- WindBoat.blows(III)I, the place 94
set_option maxRecDepth 100000 in
set_option maxHeartbeats 8000000 in
theorem f_118_94 (x2 : Int32) (x4 : Int32) (x5 : Int32) (μ : wm_M) (Q : Option Value → wm_M → Prop) (h : wm_OkI 0 73 [.ref 2, .int x4, .int x5, .int x2] μ (fun r2 μ1 => Q (some (.int r2)) μ1)) : wm_Wp 0 118 94 [.ref 0, .null, .int x2, .null, .int x4, .int x5] μ Q := wm_vc mo_118 (rt := some .int) (by decide +kernel) mc_118 128 h
-- WindBoat.blows(III)I, the place 110
set_option maxRecDepth 100000 in
set_option maxHeartbeats 8000000 in
theorem f_118_110 (x4 : Int32) (x5 : Int32) (μ : wm_M) (Q : Option Value → wm_M → Prop) (h : wm_OkI 0 69 [.ref 2, .int x4, .int x5] μ (fun r2 μ1 => wm_OkI 0 177 [.int r2] μ1 (fun r4 μ3 => Q (some (.int r4)) μ3))) : wm_Wp 0 118 110 [.ref 0, .null, .null, .null, .int x4, .int x5] μ Q := wm_vc mo_118 (rt := some .int) (by decide +kernel) mc_118 128 h
-- WindBoat.blows(III)I, the place 128
set_option maxRecDepth 100000 in
set_option maxHeartbeats 8000000 in
theorem f_118_128 (μ : wm_M) (Q : Option Value → wm_M → Prop) (h : wm_OkI 0 161 [.ref 0, .int (-7 : Int32)] μ (fun r2 μ1 => Q (some (.int r2)) μ1)) : wm_Wp 0 118 128 [.ref 0, .null, .null, .null, .null, .null] μ Q := wm_vc mo_118 (rt := some .int) (by decide +kernel) mc_118 128 h
-- WindBoat.mark(I)I
set_option maxRecDepth 100000 in
set_option maxHeartbeats 8000000 in
theorem f_119 (a1 : Int32) (μ : wm_M) (Q : Option Value → wm_M → Prop) (h : wm_OkI 0 167 [.int a1] μ (fun r2 μ1 => ((r2 = (0 : Int32) → wm_Wp 0 119 7 [.ref 0, .null, .null, .null] μ1 Q) ∧ (¬ r2 = (0 : Int32) → wm_Wp 0 119 14 [.ref 0, .int a1, .null, .null] μ1 Q)))) : wm_Ok 0 119 [.ref 0, .int a1] μ Q := wm_ent (nL := 4) (l := [.ref 0, .int a1, .null, .null]) (by decide +kernel) (by decide +kernel) (by decide +kernel) rfl rfl (wm_vc mo_119 (rt := some .int) (by decide +kernel) mc_119 58 h)
-- WindBoat.mark(I)I, the place 7
set_option maxRecDepth 100000 in
set_option maxHeartbeats 8000000 in
theorem f_119_7 (μ : wm_M) (Q : Option Value → wm_M → Prop) (h : wm_OkI 0 161 [.ref 0, .int (-3 : Int32)] μ (fun r2 μ1 => Q (some (.int r2)) μ1)) : wm_Wp 0 119 7 [.ref 0, .null, .null, .null] μ Q := wm_vc mo_119 (rt := some .int) (by decide +kernel) mc_119 58 h
-- WindBoat.mark(I)I, the place 14
set_option maxRecDepth 100000 in
set_option maxHeartbeats 8000000 in
theorem f_119_14 (x1 : Int32) (μ : wm_M) (Q : Option Value → wm_M → Prop) (h : wm_OkR 0 163 [.ref 0] μ (fun μ1 => wm_Wp 0 119 22 [.null, .int x1, .ref 2, .null] μ1 Q)) : wm_Wp 0 119 14 [.ref 0, .int x1, .null, .null] μ Q := wm_vc mo_119 (rt := some .int) (by decide +kernel) mc_119 58 h
-- WindBoat.mark(I)I, the place 22
set_option maxRecDepth 100000 in
set_option maxHeartbeats 8000000 in
theorem f_119_22 (x1 : Int32) (μ : wm_M) (Q : Option Value → wm_M → Prop) (h : wm_Wp 0 119 32 [.null, .null, .null, .int (μ.1 2 4)] (wm_si μ 2 4 x1) Q) : wm_Wp 0 119 22 [.null, .int x1, .ref 2, .null] μ Q := wm_vc mo_119 (rt := some .int) (by decide +kernel) mc_119 58 h
-- WindBoat.mark(I)I, the place 32
set_option maxRecDepth 100000 in
set_option maxHeartbeats 8000000 in
theorem f_119_32 (x3 : Int32) (μ : wm_M) (Q : Option Value → wm_M → Prop) (h : Q (some (.int x3)) μ) : wm_Wp 0 119 32 [.null, .null, .null, .int x3] μ Q := wm_vc mo_119 (rt := some .int) (by decide +kernel) mc_119 58 h
-- WindBoat.speed(III)I
set_option maxRecDepth 100000 in
set_option maxHeartbeats 8000000 in
theorem f_120 (a1 : Int32) (a2 : Int32) (a3 : Int32) (μ : wm_M) (Q : Option Value → wm_M → Prop) (h : wm_OkI 0 172 [.int a1] μ (fun r2 μ1 => ((r2 = (0 : Int32) → wm_Wp 0 120 14 [.ref 0, .null, .null, .null, .null, .null, .null] μ1 Q) ∧ (¬ r2 = (0 : Int32) → wm_Wp 0 120 7 [.ref 0, .int a1, .int a2, .int a3, .null, .null, .null] μ1 Q)))) : wm_Ok 0 120 [.ref 0, .int a1, .int a2, .int a3] μ Q := wm_ent (nL := 7) (l := [.ref 0, .int a1, .int a2, .int a3, .null, .null, .null]) (by decide +kernel) (by decide +kernel) (by decide +kernel) rfl rfl (wm_vc mo_120 (rt := some .int) (by decide +kernel) mc_120 98 h)
-- WindBoat.speed(III)I, the place 7
set_option maxRecDepth 100000 in
set_option maxHeartbeats 8000000 in
theorem f_120_7 (x1 : Int32) (x2 : Int32) (x3 : Int32) (μ : wm_M) (Q : Option Value → wm_M → Prop) (h : wm_OkI 0 173 [.int x2] μ (fun r2 μ1 => ((r2 = (0 : Int32) → wm_Wp 0 120 14 [.ref 0, .null, .null, .null, .null, .null, .null] μ1 Q) ∧ (¬ r2 = (0 : Int32) → wm_Wp 0 120 21 [.ref 0, .int x1, .int x2, .int x3, .null, .null, .null] μ1 Q)))) : wm_Wp 0 120 7 [.ref 0, .int x1, .int x2, .int x3, .null, .null, .null] μ Q := wm_vc mo_120 (rt := some .int) (by decide +kernel) mc_120 98 h
-- WindBoat.speed(III)I, the place 14
set_option maxRecDepth 100000 in
set_option maxHeartbeats 8000000 in
theorem f_120_14 (μ : wm_M) (Q : Option Value → wm_M → Prop) (h : wm_OkI 0 161 [.ref 0, .int (-3 : Int32)] μ (fun r2 μ1 => Q (some (.int r2)) μ1)) : wm_Wp 0 120 14 [.ref 0, .null, .null, .null, .null, .null, .null] μ Q := wm_vc mo_120 (rt := some .int) (by decide +kernel) mc_120 98 h
-- WindBoat.speed(III)I, the place 21
set_option maxRecDepth 100000 in
set_option maxHeartbeats 8000000 in
theorem f_120_21 (x1 : Int32) (x2 : Int32) (x3 : Int32) (μ : wm_M) (Q : Option Value → wm_M → Prop) (h : wm_OkI 0 174 [.int x3] μ (fun r2 μ1 => ((r2 = (0 : Int32) → wm_Wp 0 120 28 [.ref 0, .null, .null, .null, .null, .null, .null] μ1 Q) ∧ (¬ r2 = (0 : Int32) → wm_Wp 0 120 35 [.ref 0, .int x1, .int x2, .int x3, .null, .null, .null] μ1 Q)))) : wm_Wp 0 120 21 [.ref 0, .int x1, .int x2, .int x3, .null, .null, .null] μ Q := wm_vc mo_120 (rt := some .int) (by decide +kernel) mc_120 98 h
-- WindBoat.speed(III)I, the place 28
set_option maxRecDepth 100000 in
set_option maxHeartbeats 8000000 in
theorem f_120_28 (μ : wm_M) (Q : Option Value → wm_M → Prop) (h : wm_OkI 0 161 [.ref 0, .int (-7 : Int32)] μ (fun r2 μ1 => Q (some (.int r2)) μ1)) : wm_Wp 0 120 28 [.ref 0, .null, .null, .null, .null, .null, .null] μ Q := wm_vc mo_120 (rt := some .int) (by decide +kernel) mc_120 98 h
-- WindBoat.speed(III)I, the place 35
set_option maxRecDepth 100000 in
set_option maxHeartbeats 8000000 in
theorem f_120_35 (x1 : Int32) (x2 : Int32) (x3 : Int32) (μ : wm_M) (Q : Option Value → wm_M → Prop) (h : wm_OkR 0 163 [.ref 0] μ (fun μ1 => wm_Wp 0 120 44 [.null, .int x1, .int x2, .int x3, .ref 7, .null, .null] μ1 Q)) : wm_Wp 0 120 35 [.ref 0, .int x1, .int x2, .int x3, .null, .null, .null] μ Q := wm_vc mo_120 (rt := some .int) (by decide +kernel) mc_120 98 h
-- WindBoat.speed(III)I, the place 44
set_option maxRecDepth 100000 in
set_option maxHeartbeats 8000000 in
theorem f_120_44 (x1 : Int32) (x2 : Int32) (x3 : Int32) (μ : wm_M) (Q : Option Value → wm_M → Prop) (h : (vp_in ((x1 * (5 : Int32)) + x2) 25 ∧ (vp_in ((x1 * (5 : Int32)) + x2) 25 ∧ wm_Wp 0 120 70 [.null, .null, .null, .null, .null, .null, .int (μ.1 8 (((x1 * (5 : Int32)) + x2)).toNatClampNeg)] (wm_si μ 8 (((x1 * (5 : Int32)) + x2)).toNatClampNeg x3) Q))) : wm_Wp 0 120 44 [.null, .int x1, .int x2, .int x3, .ref 7, .null, .null] μ Q := wm_vc mo_120 (rt := some .int) (by decide +kernel) mc_120 98 h
-- WindBoat.speed(III)I, the place 70
set_option maxRecDepth 100000 in
set_option maxHeartbeats 8000000 in
theorem f_120_70 (x6 : Int32) (μ : wm_M) (Q : Option Value → wm_M → Prop) (h : Q (some (.int x6)) μ) : wm_Wp 0 120 70 [.null, .null, .null, .null, .null, .null, .int x6] μ Q := wm_vc mo_120 (rt := some .int) (by decide +kernel) mc_120 98 h
-- WindBoat.learn(III)I
set_option maxRecDepth 100000 in
set_option maxHeartbeats 8000000 in
theorem f_121 (a1 : Int32) (a2 : Int32) (a3 : Int32) (μ : wm_M) (Q : Option Value → wm_M → Prop) (h : wm_OkI 0 172 [.int a1] μ (fun r2 μ1 => ((r2 = (0 : Int32) → wm_Wp 0 121 14 [.ref 0, .null, .null, .null, .null] μ1 Q) ∧ (¬ r2 = (0 : Int32) → wm_Wp 0 121 7 [.ref 0, .int a1, .int a2, .int a3, .null] μ1 Q)))) : wm_Ok 0 121 [.ref 0, .int a1, .int a2, .int a3] μ Q := wm_ent (nL := 5) (l := [.ref 0, .int a1, .int a2, .int a3, .null]) (by decide +kernel) (by decide +kernel) (by decide +kernel) rfl rfl (wm_vc mo_121 (rt := some .int) (by decide +kernel) mc_121 104 h)
-- WindBoat.learn(III)I, the place 7
set_option maxRecDepth 100000 in
set_option maxHeartbeats 8000000 in
theorem f_121_7 (x1 : Int32) (x2 : Int32) (x3 : Int32) (μ : wm_M) (Q : Option Value → wm_M → Prop) (h : wm_OkI 0 173 [.int x2] μ (fun r2 μ1 => ((r2 = (0 : Int32) → wm_Wp 0 121 14 [.ref 0, .null, .null, .null, .null] μ1 Q) ∧ (¬ r2 = (0 : Int32) → wm_Wp 0 121 21 [.ref 0, .int x1, .int x2, .int x3, .null] μ1 Q)))) : wm_Wp 0 121 7 [.ref 0, .int x1, .int x2, .int x3, .null] μ Q := wm_vc mo_121 (rt := some .int) (by decide +kernel) mc_121 104 h
-- WindBoat.learn(III)I, the place 14
set_option maxRecDepth 100000 in
set_option maxHeartbeats 8000000 in
theorem f_121_14 (μ : wm_M) (Q : Option Value → wm_M → Prop) (h : wm_OkI 0 161 [.ref 0, .int (-3 : Int32)] μ (fun r2 μ1 => Q (some (.int r2)) μ1)) : wm_Wp 0 121 14 [.ref 0, .null, .null, .null, .null] μ Q := wm_vc mo_121 (rt := some .int) (by decide +kernel) mc_121 104 h
-- WindBoat.learn(III)I, the place 21
set_option maxRecDepth 100000 in
set_option maxHeartbeats 8000000 in
theorem f_121_21 (x1 : Int32) (x2 : Int32) (x3 : Int32) (μ : wm_M) (Q : Option Value → wm_M → Prop) (h : wm_OkI 0 174 [.int x3] μ (fun r2 μ1 => ((r2 = (0 : Int32) → wm_Wp 0 121 28 [.ref 0, .null, .null, .null, .null] μ1 Q) ∧ (¬ r2 = (0 : Int32) → wm_Wp 0 121 35 [.ref 0, .int x1, .int x2, .int x3, .null] μ1 Q)))) : wm_Wp 0 121 21 [.ref 0, .int x1, .int x2, .int x3, .null] μ Q := wm_vc mo_121 (rt := some .int) (by decide +kernel) mc_121 104 h
-- WindBoat.learn(III)I, the place 28
set_option maxRecDepth 100000 in
set_option maxHeartbeats 8000000 in
theorem f_121_28 (μ : wm_M) (Q : Option Value → wm_M → Prop) (h : wm_OkI 0 161 [.ref 0, .int (-7 : Int32)] μ (fun r2 μ1 => Q (some (.int r2)) μ1)) : wm_Wp 0 121 28 [.ref 0, .null, .null, .null, .null] μ Q := wm_vc mo_121 (rt := some .int) (by decide +kernel) mc_121 104 h
-- WindBoat.learn(III)I, the place 35
set_option maxRecDepth 100000 in
set_option maxHeartbeats 8000000 in
theorem f_121_35 (x1 : Int32) (x2 : Int32) (x3 : Int32) (μ : wm_M) (Q : Option Value → wm_M → Prop) (h : (vp_in ((x1 * (5 : Int32)) + x2) 25 ∧ (((μ.1 9 (((x1 * (5 : Int32)) + x2)).toNatClampNeg) < (99 : Int32) → wm_Wp 0 121 67 [.ref 0, .null, .null, .int x3, .int ((x1 * (5 : Int32)) + x2)] μ Q) ∧ (¬ (μ.1 9 (((x1 * (5 : Int32)) + x2)).toNatClampNeg) < (99 : Int32) → wm_Wp 0 121 60 [.ref 0, .null, .null, .null, .null] μ Q)))) : wm_Wp 0 121 35 [.ref 0, .int x1, .int x2, .int x3, .null] μ Q := wm_vc mo_121 (rt := some .int) (by decide +kernel) mc_121 104 h
-- WindBoat.learn(III)I, the place 60
set_option maxRecDepth 100000 in
set_option maxHeartbeats 8000000 in
theorem f_121_60 (μ : wm_M) (Q : Option Value → wm_M → Prop) (h : wm_OkI 0 161 [.ref 0, .int (-8 : Int32)] μ (fun r2 μ1 => Q (some (.int r2)) μ1)) : wm_Wp 0 121 60 [.ref 0, .null, .null, .null, .null] μ Q := wm_vc mo_121 (rt := some .int) (by decide +kernel) mc_121 104 h
-- WindBoat.learn(III)I, the place 67
set_option maxRecDepth 100000 in
set_option maxHeartbeats 8000000 in
theorem f_121_67 (x3 : Int32) (x4 : Int32) (μ : wm_M) (Q : Option Value → wm_M → Prop) (h : wm_OkR 0 163 [.ref 0] μ (fun μ1 => wm_OkI 0 84 [.ref 7, .int x4, .int x3] μ1 (fun r3 μ2 => Q (some (.int r3)) μ2))) : wm_Wp 0 121 67 [.ref 0, .null, .null, .int x3, .int x4] μ Q := wm_vc mo_121 (rt := some .int) (by decide +kernel) mc_121 104 h
-- WindBoat.table(III)I
set_option maxRecDepth 100000 in
set_option maxHeartbeats 8000000 in
theorem f_122 (a1 : Int32) (a2 : Int32) (a3 : Int32) (μ : wm_M) (Q : Option Value → wm_M → Prop) (h : wm_OkI 0 172 [.int a1] μ (fun r2 μ1 => ((r2 = (0 : Int32) → wm_Wp 0 122 14 [.ref 0, .null, .null, .null, .null, .null] μ1 Q) ∧ (¬ r2 = (0 : Int32) → wm_Wp 0 122 7 [.ref 0, .int a1, .int a2, .int a3, .null, .null] μ1 Q)))) : wm_Ok 0 122 [.ref 0, .int a1, .int a2, .int a3] μ Q := wm_ent (nL := 6) (l := [.ref 0, .int a1, .int a2, .int a3, .null, .null]) (by decide +kernel) (by decide +kernel) (by decide +kernel) rfl rfl (wm_vc mo_122 (rt := some .int) (by decide +kernel) mc_122 122 h)
-- WindBoat.table(III)I, the place 7
set_option maxRecDepth 100000 in
set_option maxHeartbeats 8000000 in
theorem f_122_7 (x1 : Int32) (x2 : Int32) (x3 : Int32) (μ : wm_M) (Q : Option Value → wm_M → Prop) (h : wm_OkI 0 173 [.int x2] μ (fun r2 μ1 => ((r2 = (0 : Int32) → wm_Wp 0 122 14 [.ref 0, .null, .null, .null, .null, .null] μ1 Q) ∧ (¬ r2 = (0 : Int32) → wm_Wp 0 122 21 [.ref 0, .int x1, .int x2, .int x3, .null, .null] μ1 Q)))) : wm_Wp 0 122 7 [.ref 0, .int x1, .int x2, .int x3, .null, .null] μ Q := wm_vc mo_122 (rt := some .int) (by decide +kernel) mc_122 122 h
-- WindBoat.table(III)I, the place 14
set_option maxRecDepth 100000 in
set_option maxHeartbeats 8000000 in
theorem f_122_14 (μ : wm_M) (Q : Option Value → wm_M → Prop) (h : wm_OkI 0 161 [.ref 0, .int (-3 : Int32)] μ (fun r2 μ1 => Q (some (.int r2)) μ1)) : wm_Wp 0 122 14 [.ref 0, .null, .null, .null, .null, .null] μ Q := wm_vc mo_122 (rt := some .int) (by decide +kernel) mc_122 122 h
-- WindBoat.table(III)I, the place 21
set_option maxRecDepth 100000 in
set_option maxHeartbeats 8000000 in
theorem f_122_21 (x1 : Int32) (x2 : Int32) (x3 : Int32) (μ : wm_M) (Q : Option Value → wm_M → Prop) (h : (((x3).toInt < 0 ∨ 4 < (x3).toInt → wm_Wp 0 122 117 [.ref 0, .null, .null, .null, .null, .null] μ Q) ∧ (((x3).toInt = 0 → wm_Wp 0 122 72 [.null, .null, .null, .null, .ref 7, .int ((x1 * (5 : Int32)) + x2)] μ Q) ∧ (((x3).toInt = 1 → wm_Wp 0 122 81 [.null, .null, .null, .null, .ref 7, .int ((x1 * (5 : Int32)) + x2)] μ Q) ∧ (((x3).toInt = 2 → wm_Wp 0 122 90 [.null, .null, .null, .null, .ref 7, .int ((x1 * (5 : Int32)) + x2)] μ Q) ∧ (((x3).toInt = 3 → wm_Wp 0 122 99 [.null, .null, .null, .null, .ref 7, .int ((x1 * (5 : Int32)) + x2)] μ Q) ∧ (((x3).toInt = 4 → wm_Wp 0 122 108 [.null, .null, .null, .null, .ref 7, .int ((x1 * (5 : Int32)) + x2)] μ Q) ∧ True))))))) : wm_Wp 0 122 21 [.ref 0, .int x1, .int x2, .int x3, .null, .null] μ Q := wm_vc mo_122 (rt := some .int) (by decide +kernel) mc_122 122 h
-- WindBoat.table(III)I, the place 72
set_option maxRecDepth 100000 in
set_option maxHeartbeats 8000000 in
theorem f_122_72 (x5 : Int32) (μ : wm_M) (Q : Option Value → wm_M → Prop) (h : (vp_in x5 25 ∧ Q (some (.int (μ.1 8 (x5).toNatClampNeg))) μ)) : wm_Wp 0 122 72 [.null, .null, .null, .null, .ref 7, .int x5] μ Q := wm_vc mo_122 (rt := some .int) (by decide +kernel) mc_122 122 h
-- WindBoat.table(III)I, the place 81
set_option maxRecDepth 100000 in
set_option maxHeartbeats 8000000 in
theorem f_122_81 (x5 : Int32) (μ : wm_M) (Q : Option Value → wm_M → Prop) (h : wm_OkI 0 85 [.ref 7, .int (1 : Int32), .int x5] μ (fun r2 μ1 => Q (some (.int r2)) μ1)) : wm_Wp 0 122 81 [.null, .null, .null, .null, .ref 7, .int x5] μ Q := wm_vc mo_122 (rt := some .int) (by decide +kernel) mc_122 122 h
-- WindBoat.table(III)I, the place 90
set_option maxRecDepth 100000 in
set_option maxHeartbeats 8000000 in
theorem f_122_90 (x5 : Int32) (μ : wm_M) (Q : Option Value → wm_M → Prop) (h : (vp_in x5 25 ∧ Q (some (.int (μ.1 9 (x5).toNatClampNeg))) μ)) : wm_Wp 0 122 90 [.null, .null, .null, .null, .ref 7, .int x5] μ Q := wm_vc mo_122 (rt := some .int) (by decide +kernel) mc_122 122 h
-- WindBoat.table(III)I, the place 99
set_option maxRecDepth 100000 in
set_option maxHeartbeats 8000000 in
theorem f_122_99 (x5 : Int32) (μ : wm_M) (Q : Option Value → wm_M → Prop) (h : (vp_in x5 25 ∧ Q (some (.int (μ.1 11 (x5).toNatClampNeg))) μ)) : wm_Wp 0 122 99 [.null, .null, .null, .null, .ref 7, .int x5] μ Q := wm_vc mo_122 (rt := some .int) (by decide +kernel) mc_122 122 h
-- WindBoat.table(III)I, the place 108
set_option maxRecDepth 100000 in
set_option maxHeartbeats 8000000 in
theorem f_122_108 (x5 : Int32) (μ : wm_M) (Q : Option Value → wm_M → Prop) (h : (vp_in x5 25 ∧ Q (some (.int (μ.1 12 (x5).toNatClampNeg))) μ)) : wm_Wp 0 122 108 [.null, .null, .null, .null, .ref 7, .int x5] μ Q := wm_vc mo_122 (rt := some .int) (by decide +kernel) mc_122 122 h
-- WindBoat.table(III)I, the place 117
set_option maxRecDepth 100000 in
set_option maxHeartbeats 8000000 in
theorem f_122_117 (μ : wm_M) (Q : Option Value → wm_M → Prop) (h : wm_OkI 0 161 [.ref 0, .int (-7 : Int32)] μ (fun r2 μ1 => Q (some (.int r2)) μ1)) : wm_Wp 0 122 117 [.ref 0, .null, .null, .null, .null, .null] μ Q := wm_vc mo_122 (rt := some .int) (by decide +kernel) mc_122 122 h
