/-! ===== what each block of code asks (printed by wip/gen/genvc.py) ===== -/
-- WindBoatModel.added()I
set_option maxRecDepth 100000 in
set_option maxHeartbeats 8000000 in
theorem f_234 {e : Nat} (μ : wm_M) (Q : Option Value → wm_M → Prop) (h : wm_OkI e 233 [.ref 89] μ (fun r2 μ1 => wm_Wp e 234 5 [.ref 89, .int r2, .null, .null] μ1 Q)) : wm_Ok e 234 [.ref 89] μ Q := wm_ent (nL := 4) (l := [.ref 89, .null, .null, .null]) (by decide +kernel) (by decide +kernel) (by decide +kernel) rfl rfl (wm_vc mo_234 (rt := some .int) (by decide +kernel) mc_234 96 h)
-- WindBoatModel.added()I, the place 5
set_option maxRecDepth 100000 in
set_option maxHeartbeats 8000000 in
theorem f_234_5 {e : Nat} (x1 : Int32) (μ : wm_M) (Q : Option Value → wm_M → Prop) (h : wm_OkI 0 229 [.ref 89, .int (43 : Int32)] μ (fun r2 μ1 => ((r2 = (0 : Int32) → wm_Wp e 234 14 [.ref 89, .int x1, .null, .null] μ1 Q) ∧ (¬ r2 = (0 : Int32) → wm_Wp e 234 23 [.ref 89, .int x1, .null, .null] μ1 Q)))) : wm_Wp e 234 5 [.ref 89, .int x1, .null, .null] μ Q := wm_vc mo_234 (rt := some .int) (by decide +kernel) mc_234 96 h
-- WindBoatModel.added()I, the place 14
set_option maxRecDepth 100000 in
set_option maxHeartbeats 8000000 in
theorem f_234_14 {e : Nat} (x1 : Int32) (μ : wm_M) (Q : Option Value → wm_M → Prop) (h : wm_OkI 0 229 [.ref 89, .int (45 : Int32)] μ (fun r2 μ1 => ((r2 = (0 : Int32) → wm_Wp e 234 66 [.null, .int x1, .null, .null] μ1 Q) ∧ (¬ r2 = (0 : Int32) → wm_Wp e 234 23 [.ref 89, .int x1, .null, .null] μ1 Q)))) : wm_Wp e 234 14 [.ref 89, .int x1, .null, .null] μ Q := wm_vc mo_234 (rt := some .int) (by decide +kernel) mc_234 96 h
-- WindBoatModel.added()I, the place 23
set_option maxRecDepth 100000 in
set_option maxHeartbeats 8000000 in
theorem f_234_23 {e : Nat} (x1 : Int32) (μ : wm_M) (Q : Option Value → wm_M → Prop) (h : (((lg_cmp (μ.2 89 10) (43 : Int64)) = (0 : Int32) → wm_OkV 0 226 [.ref 89] μ (fun μ1 => wm_Wp e 234 44 [.ref 89, .int x1, .int (1 : Int32), .null] μ1 Q)) ∧ (¬ (lg_cmp (μ.2 89 10) (43 : Int64)) = (0 : Int32) → wm_Wp e 234 38 [.ref 89, .int x1, .null, .null] μ Q))) : wm_Wp e 234 23 [.ref 89, .int x1, .null, .null] μ Q := wm_vc mo_234 (rt := some .int) (by decide +kernel) mc_234 96 h
-- WindBoatModel.added()I, the place 38
set_option maxRecDepth 100000 in
set_option maxHeartbeats 8000000 in
theorem f_234_38 {e : Nat} (x1 : Int32) (μ : wm_M) (Q : Option Value → wm_M → Prop) (h : wm_OkV 0 226 [.ref 89] μ (fun μ1 => wm_Wp e 234 44 [.ref 89, .int x1, .int (0 : Int32), .null] μ1 Q)) : wm_Wp e 234 38 [.ref 89, .int x1, .null, .null] μ Q := wm_vc mo_234 (rt := some .int) (by decide +kernel) mc_234 96 h
-- WindBoatModel.added()I, the place 44
set_option maxRecDepth 100000 in
set_option maxHeartbeats 8000000 in
theorem f_234_44 {e : Nat} (x1 : Int32) (x2 : Int32) (μ : wm_M) (Q : Option Value → wm_M → Prop) (h : wm_OkI e 233 [.ref 89] μ (fun r2 μ1 => wm_Wp e 234 49 [.ref 89, .int x1, .int x2, .int r2] μ1 Q)) : wm_Wp e 234 44 [.ref 89, .int x1, .int x2, .null] μ Q := wm_vc mo_234 (rt := some .int) (by decide +kernel) mc_234 96 h
-- WindBoatModel.added()I, the place 49
set_option maxRecDepth 100000 in
set_option maxHeartbeats 8000000 in
theorem f_234_49 {e : Nat} (x1 : Int32) (x2 : Int32) (x3 : Int32) (μ : wm_M) (Q : Option Value → wm_M → Prop) (h : ((x2 = (0 : Int32) → wm_Wp e 234 59 [.ref 89, .int x1, .null, .int x3] μ Q) ∧ (¬ x2 = (0 : Int32) → wm_Wp e 234 5 [.ref 89, .int (x1 + x3), .null, .null] μ Q))) : wm_Wp e 234 49 [.ref 89, .int x1, .int x2, .int x3] μ Q := wm_vc mo_234 (rt := some .int) (by decide +kernel) mc_234 96 h
-- WindBoatModel.added()I, the place 59
set_option maxRecDepth 100000 in
set_option maxHeartbeats 8000000 in
theorem f_234_59 {e : Nat} (x1 : Int32) (x3 : Int32) (μ : wm_M) (Q : Option Value → wm_M → Prop) (h : wm_Wp e 234 5 [.ref 89, .int (x1 - x3), .null, .null] μ Q) : wm_Wp e 234 59 [.ref 89, .int x1, .null, .int x3] μ Q := wm_vc mo_234 (rt := some .int) (by decide +kernel) mc_234 96 h
-- WindBoatModel.added()I, the place 66
set_option maxRecDepth 100000 in
set_option maxHeartbeats 8000000 in
theorem f_234_66 {e : Nat} (x1 : Int32) (μ : wm_M) (Q : Option Value → wm_M → Prop) (h : Q (some (.int x1)) μ) : wm_Wp e 234 66 [.null, .int x1, .null, .null] μ Q := wm_vc mo_234 (rt := some .int) (by decide +kernel) mc_234 96 h
-- WindBoatModel.not()I
set_option maxRecDepth 100000 in
set_option maxHeartbeats 8000000 in
theorem f_235 {e : Nat} (μ : wm_M) (Q : Option Value → wm_M → Prop) (h : wm_OkI 0 228 [.ref 89, .long (10631 : Int64)] μ (fun r2 μ1 => ((r2 = (0 : Int32) → wm_Wp (e + 1) 235 44 [.ref 89, .null, .null, .null, .null] μ1 Q) ∧ (¬ r2 = (0 : Int32) → wm_Wp (e + 1) 235 10 [.ref 89, .null, .null, .null, .null] μ1 Q)))) : wm_Ok (e + 1) 235 [.ref 89] μ Q := wm_ent (nL := 5) (l := [.ref 89, .null, .null, .null, .null]) (by decide +kernel) (by decide +kernel) (by decide +kernel) rfl rfl (wm_vc mo_235 (rt := some .int) (by decide +kernel) mc_235 164 h)
-- WindBoatModel.not()I, the place 10
set_option maxRecDepth 100000 in
set_option maxHeartbeats 8000000 in
theorem f_235_10 {e : Nat} (μ : wm_M) (Q : Option Value → wm_M → Prop) (h : wm_OkI 0 230 [.ref 89] μ (fun r2 μ1 => ((r2 = (0 : Int32) → wm_Wp (e + 1) 235 17 [.null, .null, .null, .null, .null] μ1 Q) ∧ (¬ r2 = (0 : Int32) → wm_Wp (e + 1) 235 19 [.ref 89, .null, .null, .null, .null] μ1 Q)))) : wm_Wp (e + 1) 235 10 [.ref 89, .null, .null, .null, .null] μ Q := wm_vc mo_235 (rt := some .int) (by decide +kernel) mc_235 164 h
-- WindBoatModel.not()I, the place 17
set_option maxRecDepth 100000 in
set_option maxHeartbeats 8000000 in
theorem f_235_17 {e : Nat} (μ : wm_M) (Q : Option Value → wm_M → Prop) (h : Q (some (.int (0 : Int32))) μ) : wm_Wp (e + 1) 235 17 [.null, .null, .null, .null, .null] μ Q := wm_vc mo_235 (rt := some .int) (by decide +kernel) mc_235 164 h
-- WindBoatModel.not()I, the place 19
set_option maxRecDepth 100000 in
set_option maxHeartbeats 8000000 in
theorem f_235_19 {e : Nat} (μ : wm_M) (Q : Option Value → wm_M → Prop) (h : wm_OkI e 235 [.ref 89] μ (fun r2 μ1 => wm_Wp (e + 1) 235 24 [.ref 89, .int r2, .null, .null, .null] μ1 Q)) : wm_Wp (e + 1) 235 19 [.ref 89, .null, .null, .null, .null] μ Q := wm_vc mo_235 (rt := some .int) (by decide +kernel) mc_235 164 h
-- WindBoatModel.not()I, the place 24
set_option maxRecDepth 100000 in
set_option maxHeartbeats 8000000 in
theorem f_235_24 {e : Nat} (x1 : Int32) (μ : wm_M) (Q : Option Value → wm_M → Prop) (h : wm_Wp (e + 1) 235 34 [.null, .int x1, .null, .null, .null] (wm_si μ 89 11 ((μ.1 89 11) - (1 : Int32))) Q) : wm_Wp (e + 1) 235 24 [.ref 89, .int x1, .null, .null, .null] μ Q := wm_vc mo_235 (rt := some .int) (by decide +kernel) mc_235 164 h
-- WindBoatModel.not()I, the place 34
set_option maxRecDepth 100000 in
set_option maxHeartbeats 8000000 in
theorem f_235_34 {e : Nat} (x1 : Int32) (μ : wm_M) (Q : Option Value → wm_M → Prop) (h : ((x1 = (0 : Int32) → Q (some (.int (1 : Int32))) μ) ∧ (¬ x1 = (0 : Int32) → wm_Wp (e + 1) 235 42 [.null, .null, .null, .null, .null] μ Q))) : wm_Wp (e + 1) 235 34 [.null, .int x1, .null, .null, .null] μ Q := wm_vc mo_235 (rt := some .int) (by decide +kernel) mc_235 164 h
-- WindBoatModel.not()I, the place 42
set_option maxRecDepth 100000 in
set_option maxHeartbeats 8000000 in
theorem f_235_42 {e : Nat} (μ : wm_M) (Q : Option Value → wm_M → Prop) (h : Q (some (.int (0 : Int32))) μ) : wm_Wp (e + 1) 235 42 [.null, .null, .null, .null, .null] μ Q := wm_vc mo_235 (rt := some .int) (by decide +kernel) mc_235 164 h
-- WindBoatModel.not()I, the place 44
set_option maxRecDepth 100000 in
set_option maxHeartbeats 8000000 in
theorem f_235_44 {e : Nat} (μ : wm_M) (Q : Option Value → wm_M → Prop) (h : wm_OkI (e + 1) 234 [.ref 89] μ (fun r2 μ1 => wm_Wp (e + 1) 235 49 [.ref 89, .int r2, .null, .null, .null] μ1 Q)) : wm_Wp (e + 1) 235 44 [.ref 89, .null, .null, .null, .null] μ Q := wm_vc mo_235 (rt := some .int) (by decide +kernel) mc_235 164 h
-- WindBoatModel.not()I, the place 49
set_option maxRecDepth 100000 in
set_option maxHeartbeats 8000000 in
theorem f_235_49 {e : Nat} (x1 : Int32) (μ : wm_M) (Q : Option Value → wm_M → Prop) (h : wm_OkI 0 229 [.ref 89, .int (60 : Int32)] μ (fun r2 μ1 => ((r2 = (0 : Int32) → wm_Wp (e + 1) 235 58 [.ref 89, .int x1, .null, .null, .null] μ1 Q) ∧ (¬ r2 = (0 : Int32) → wm_Wp (e + 1) 235 78 [.ref 89, .int x1, .null, .null, .null] μ1 Q)))) : wm_Wp (e + 1) 235 49 [.ref 89, .int x1, .null, .null, .null] μ Q := wm_vc mo_235 (rt := some .int) (by decide +kernel) mc_235 164 h
-- WindBoatModel.not()I, the place 58
set_option maxRecDepth 100000 in
set_option maxHeartbeats 8000000 in
theorem f_235_58 {e : Nat} (x1 : Int32) (μ : wm_M) (Q : Option Value → wm_M → Prop) (h : wm_OkI 0 229 [.ref 89, .int (61 : Int32)] μ (fun r2 μ1 => ((r2 = (0 : Int32) → wm_Wp (e + 1) 235 67 [.ref 89, .int x1, .null, .null, .null] μ1 Q) ∧ (¬ r2 = (0 : Int32) → wm_Wp (e + 1) 235 78 [.ref 89, .int x1, .null, .null, .null] μ1 Q)))) : wm_Wp (e + 1) 235 58 [.ref 89, .int x1, .null, .null, .null] μ Q := wm_vc mo_235 (rt := some .int) (by decide +kernel) mc_235 164 h
-- WindBoatModel.not()I, the place 67
set_option maxRecDepth 100000 in
set_option maxHeartbeats 8000000 in
theorem f_235_67 {e : Nat} (x1 : Int32) (μ : wm_M) (Q : Option Value → wm_M → Prop) (h : wm_OkI 0 229 [.ref 89, .int (62 : Int32)] μ (fun r2 μ1 => ((r2 = (0 : Int32) → wm_Wp (e + 1) 235 76 [.null, .int x1, .null, .null, .null] μ1 Q) ∧ (¬ r2 = (0 : Int32) → wm_Wp (e + 1) 235 78 [.ref 89, .int x1, .null, .null, .null] μ1 Q)))) : wm_Wp (e + 1) 235 67 [.ref 89, .int x1, .null, .null, .null] μ Q := wm_vc mo_235 (rt := some .int) (by decide +kernel) mc_235 164 h
-- WindBoatModel.not()I, the place 76
set_option maxRecDepth 100000 in
set_option maxHeartbeats 8000000 in
theorem f_235_76 {e : Nat} (x1 : Int32) (μ : wm_M) (Q : Option Value → wm_M → Prop) (h : Q (some (.int x1)) μ) : wm_Wp (e + 1) 235 76 [.null, .int x1, .null, .null, .null] μ Q := wm_vc mo_235 (rt := some .int) (by decide +kernel) mc_235 164 h
-- WindBoatModel.not()I, the place 78
set_option maxRecDepth 100000 in
set_option maxHeartbeats 8000000 in
theorem f_235_78 {e : Nat} (x1 : Int32) (μ : wm_M) (Q : Option Value → wm_M → Prop) (h : wm_OkV 0 226 [.ref 89] μ (fun μ1 => wm_Wp (e + 1) 235 87 [.ref 89, .int x1, .long (μ.2 89 10), .null, .null] μ1 Q)) : wm_Wp (e + 1) 235 78 [.ref 89, .int x1, .null, .null, .null] μ Q := wm_vc mo_235 (rt := some .int) (by decide +kernel) mc_235 164 h
-- WindBoatModel.not()I, the place 87
set_option maxRecDepth 100000 in
set_option maxHeartbeats 8000000 in
theorem f_235_87 {e : Nat} (x1 : Int32) (x2 : Int64) (μ : wm_M) (Q : Option Value → wm_M → Prop) (h : wm_OkI (e + 1) 234 [.ref 89] μ (fun r2 μ1 => wm_Wp (e + 1) 235 93 [.null, .int x1, .long x2, .null, .int r2] μ1 Q)) : wm_Wp (e + 1) 235 87 [.ref 89, .int x1, .long x2, .null, .null] μ Q := wm_vc mo_235 (rt := some .int) (by decide +kernel) mc_235 164 h
-- WindBoatModel.not()I, the place 93
set_option maxRecDepth 100000 in
set_option maxHeartbeats 8000000 in
theorem f_235_93 {e : Nat} (x1 : Int32) (x2 : Int64) (x4 : Int32) (μ : wm_M) (Q : Option Value → wm_M → Prop) (h : (((lg_cmp x2 (60 : Int64)) = (0 : Int32) → ((x4 ≤ x1 → wm_Wp (e + 1) 235 137 [.null, .null, .null, .null, .null] μ Q) ∧ (¬ x4 ≤ x1 → wm_Wp (e + 1) 235 133 [.null, .null, .null, .null, .null] μ Q))) ∧ (¬ (lg_cmp x2 (60 : Int64)) = (0 : Int32) → wm_Wp (e + 1) 235 110 [.null, .int x1, .long x2, .null, .int x4] μ Q))) : wm_Wp (e + 1) 235 93 [.null, .int x1, .long x2, .null, .int x4] μ Q := wm_vc mo_235 (rt := some .int) (by decide +kernel) mc_235 164 h
-- WindBoatModel.not()I, the place 110
set_option maxRecDepth 100000 in
set_option maxHeartbeats 8000000 in
theorem f_235_110 {e : Nat} (x1 : Int32) (x2 : Int64) (x4 : Int32) (μ : wm_M) (Q : Option Value → wm_M → Prop) (h : (((lg_cmp x2 (61 : Int64)) = (0 : Int32) → ((x1 = x4 → wm_Wp (e + 1) 235 133 [.null, .null, .null, .null, .null] μ Q) ∧ (¬ x1 = x4 → wm_Wp (e + 1) 235 137 [.null, .null, .null, .null, .null] μ Q))) ∧ (¬ (lg_cmp x2 (61 : Int64)) = (0 : Int32) → wm_Wp (e + 1) 235 127 [.null, .int x1, .null, .null, .int x4] μ Q))) : wm_Wp (e + 1) 235 110 [.null, .int x1, .long x2, .null, .int x4] μ Q := wm_vc mo_235 (rt := some .int) (by decide +kernel) mc_235 164 h
-- WindBoatModel.not()I, the place 127
set_option maxRecDepth 100000 in
set_option maxHeartbeats 8000000 in
theorem f_235_127 {e : Nat} (x1 : Int32) (x4 : Int32) (μ : wm_M) (Q : Option Value → wm_M → Prop) (h : ((x1 ≤ x4 → wm_Wp (e + 1) 235 137 [.null, .null, .null, .null, .null] μ Q) ∧ (¬ x1 ≤ x4 → wm_Wp (e + 1) 235 133 [.null, .null, .null, .null, .null] μ Q))) : wm_Wp (e + 1) 235 127 [.null, .int x1, .null, .null, .int x4] μ Q := wm_vc mo_235 (rt := some .int) (by decide +kernel) mc_235 164 h
-- WindBoatModel.not()I, the place 133
set_option maxRecDepth 100000 in
set_option maxHeartbeats 8000000 in
theorem f_235_133 {e : Nat} (μ : wm_M) (Q : Option Value → wm_M → Prop) (h : Q (some (.int (1 : Int32))) μ) : wm_Wp (e + 1) 235 133 [.null, .null, .null, .null, .null] μ Q := wm_vc mo_235 (rt := some .int) (by decide +kernel) mc_235 164 h
-- WindBoatModel.not()I, the place 137
set_option maxRecDepth 100000 in
set_option maxHeartbeats 8000000 in
theorem f_235_137 {e : Nat} (μ : wm_M) (Q : Option Value → wm_M → Prop) (h : Q (some (.int (0 : Int32))) μ) : wm_Wp (e + 1) 235 137 [.null, .null, .null, .null, .null] μ Q := wm_vc mo_235 (rt := some .int) (by decide +kernel) mc_235 164 h
-- WindBoatModel.both()I
set_option maxRecDepth 100000 in
set_option maxHeartbeats 8000000 in
theorem f_236 {e : Nat} (μ : wm_M) (Q : Option Value → wm_M → Prop) (h : wm_OkI e 235 [.ref 89] μ (fun r2 μ1 => wm_Wp e 236 5 [.ref 89, .int r2, .null] μ1 Q)) : wm_Ok e 236 [.ref 89] μ Q := wm_ent (nL := 3) (l := [.ref 89, .null, .null]) (by decide +kernel) (by decide +kernel) (by decide +kernel) rfl rfl (wm_vc mo_236 (rt := some .int) (by decide +kernel) mc_236 66 h)
-- WindBoatModel.both()I, the place 5
set_option maxRecDepth 100000 in
set_option maxHeartbeats 8000000 in
theorem f_236_5 {e : Nat} (x1 : Int32) (μ : wm_M) (Q : Option Value → wm_M → Prop) (h : wm_OkI 0 228 [.ref 89, .long (1111 : Int64)] μ (fun r2 μ1 => ((r2 = (0 : Int32) → wm_Wp e 236 41 [.null, .int x1, .null] μ1 Q) ∧ (¬ r2 = (0 : Int32) → wm_Wp e 236 15 [.ref 89, .int x1, .null] μ1 Q)))) : wm_Wp e 236 5 [.ref 89, .int x1, .null] μ Q := wm_vc mo_236 (rt := some .int) (by decide +kernel) mc_236 66 h
-- WindBoatModel.both()I, the place 15
set_option maxRecDepth 100000 in
set_option maxHeartbeats 8000000 in
theorem f_236_15 {e : Nat} (x1 : Int32) (μ : wm_M) (Q : Option Value → wm_M → Prop) (h : wm_OkV 0 226 [.ref 89] μ (fun μ1 => wm_Wp e 236 19 [.ref 89, .int x1, .null] μ1 Q)) : wm_Wp e 236 15 [.ref 89, .int x1, .null] μ Q := wm_vc mo_236 (rt := some .int) (by decide +kernel) mc_236 66 h
-- WindBoatModel.both()I, the place 19
set_option maxRecDepth 100000 in
set_option maxHeartbeats 8000000 in
theorem f_236_19 {e : Nat} (x1 : Int32) (μ : wm_M) (Q : Option Value → wm_M → Prop) (h : wm_OkI e 235 [.ref 89] μ (fun r2 μ1 => wm_Wp e 236 24 [.ref 89, .int x1, .int r2] μ1 Q)) : wm_Wp e 236 19 [.ref 89, .int x1, .null] μ Q := wm_vc mo_236 (rt := some .int) (by decide +kernel) mc_236 66 h
-- WindBoatModel.both()I, the place 24
set_option maxRecDepth 100000 in
set_option maxHeartbeats 8000000 in
theorem f_236_24 {e : Nat} (x1 : Int32) (x2 : Int32) (μ : wm_M) (Q : Option Value → wm_M → Prop) (h : ((x1 = (0 : Int32) → wm_Wp e 236 36 [.ref 89, .null, .null] μ Q) ∧ (¬ x1 = (0 : Int32) → ((x2 = (0 : Int32) → wm_Wp e 236 36 [.ref 89, .null, .null] μ Q) ∧ (¬ x2 = (0 : Int32) → wm_Wp e 236 5 [.ref 89, .int (1 : Int32), .null] μ Q))))) : wm_Wp e 236 24 [.ref 89, .int x1, .int x2] μ Q := wm_vc mo_236 (rt := some .int) (by decide +kernel) mc_236 66 h
-- WindBoatModel.both()I, the place 36
set_option maxRecDepth 100000 in
set_option maxHeartbeats 8000000 in
theorem f_236_36 {e : Nat} (μ : wm_M) (Q : Option Value → wm_M → Prop) (h : wm_Wp e 236 5 [.ref 89, .int (0 : Int32), .null] μ Q) : wm_Wp e 236 36 [.ref 89, .null, .null] μ Q := wm_vc mo_236 (rt := some .int) (by decide +kernel) mc_236 66 h
-- WindBoatModel.both()I, the place 41
set_option maxRecDepth 100000 in
set_option maxHeartbeats 8000000 in
theorem f_236_41 {e : Nat} (x1 : Int32) (μ : wm_M) (Q : Option Value → wm_M → Prop) (h : Q (some (.int x1)) μ) : wm_Wp e 236 41 [.null, .int x1, .null] μ Q := wm_vc mo_236 (rt := some .int) (by decide +kernel) mc_236 66 h
-- WindBoatModel.either()I
set_option maxRecDepth 100000 in
set_option maxHeartbeats 8000000 in
theorem f_237 {e : Nat} (μ : wm_M) (Q : Option Value → wm_M → Prop) (h : wm_OkI e 236 [.ref 89] μ (fun r2 μ1 => wm_Wp e 237 5 [.ref 89, .int r2, .null] μ1 Q)) : wm_Ok e 237 [.ref 89] μ Q := wm_ent (nL := 3) (l := [.ref 89, .null, .null]) (by decide +kernel) (by decide +kernel) (by decide +kernel) rfl rfl (wm_vc mo_237 (rt := some .int) (by decide +kernel) mc_237 66 h)
-- WindBoatModel.either()I, the place 5
set_option maxRecDepth 100000 in
set_option maxHeartbeats 8000000 in
theorem f_237_5 {e : Nat} (x1 : Int32) (μ : wm_M) (Q : Option Value → wm_M → Prop) (h : wm_OkI 0 228 [.ref 89, .long (423 : Int64)] μ (fun r2 μ1 => ((r2 = (0 : Int32) → wm_Wp e 237 41 [.null, .int x1, .null] μ1 Q) ∧ (¬ r2 = (0 : Int32) → wm_Wp e 237 15 [.ref 89, .int x1, .null] μ1 Q)))) : wm_Wp e 237 5 [.ref 89, .int x1, .null] μ Q := wm_vc mo_237 (rt := some .int) (by decide +kernel) mc_237 66 h
-- WindBoatModel.either()I, the place 15
set_option maxRecDepth 100000 in
set_option maxHeartbeats 8000000 in
theorem f_237_15 {e : Nat} (x1 : Int32) (μ : wm_M) (Q : Option Value → wm_M → Prop) (h : wm_OkV 0 226 [.ref 89] μ (fun μ1 => wm_Wp e 237 19 [.ref 89, .int x1, .null] μ1 Q)) : wm_Wp e 237 15 [.ref 89, .int x1, .null] μ Q := wm_vc mo_237 (rt := some .int) (by decide +kernel) mc_237 66 h
-- WindBoatModel.either()I, the place 19
set_option maxRecDepth 100000 in
set_option maxHeartbeats 8000000 in
theorem f_237_19 {e : Nat} (x1 : Int32) (μ : wm_M) (Q : Option Value → wm_M → Prop) (h : wm_OkI e 236 [.ref 89] μ (fun r2 μ1 => wm_Wp e 237 24 [.ref 89, .int x1, .int r2] μ1 Q)) : wm_Wp e 237 19 [.ref 89, .int x1, .null] μ Q := wm_vc mo_237 (rt := some .int) (by decide +kernel) mc_237 66 h
-- WindBoatModel.either()I, the place 24
set_option maxRecDepth 100000 in
set_option maxHeartbeats 8000000 in
theorem f_237_24 {e : Nat} (x1 : Int32) (x2 : Int32) (μ : wm_M) (Q : Option Value → wm_M → Prop) (h : ((x1 = (0 : Int32) → ((x2 = (0 : Int32) → wm_Wp e 237 36 [.ref 89, .null, .null] μ Q) ∧ (¬ x2 = (0 : Int32) → wm_Wp e 237 32 [.ref 89, .null, .null] μ Q))) ∧ (¬ x1 = (0 : Int32) → wm_Wp e 237 32 [.ref 89, .null, .null] μ Q))) : wm_Wp e 237 24 [.ref 89, .int x1, .int x2] μ Q := wm_vc mo_237 (rt := some .int) (by decide +kernel) mc_237 66 h
-- WindBoatModel.either()I, the place 32
set_option maxRecDepth 100000 in
set_option maxHeartbeats 8000000 in
theorem f_237_32 {e : Nat} (μ : wm_M) (Q : Option Value → wm_M → Prop) (h : wm_Wp e 237 5 [.ref 89, .int (1 : Int32), .null] μ Q) : wm_Wp e 237 32 [.ref 89, .null, .null] μ Q := wm_vc mo_237 (rt := some .int) (by decide +kernel) mc_237 66 h
-- WindBoatModel.either()I, the place 36
set_option maxRecDepth 100000 in
set_option maxHeartbeats 8000000 in
theorem f_237_36 {e : Nat} (μ : wm_M) (Q : Option Value → wm_M → Prop) (h : wm_Wp e 237 5 [.ref 89, .int (0 : Int32), .null] μ Q) : wm_Wp e 237 36 [.ref 89, .null, .null] μ Q := wm_vc mo_237 (rt := some .int) (by decide +kernel) mc_237 66 h
-- WindBoatModel.either()I, the place 41
set_option maxRecDepth 100000 in
set_option maxHeartbeats 8000000 in
theorem f_237_41 {e : Nat} (x1 : Int32) (μ : wm_M) (Q : Option Value → wm_M → Prop) (h : Q (some (.int x1)) μ) : wm_Wp e 237 41 [.null, .int x1, .null] μ Q := wm_vc mo_237 (rt := some .int) (by decide +kernel) mc_237 66 h
-- WindBoatModel.reads(ZII)V
set_option maxRecDepth 100000 in
set_option maxHeartbeats 8000000 in
theorem f_238 (a1 : Int32) (a2 : Int32) (a3 : Int32) (μ : wm_M) (Q : Option Value → wm_M → Prop) (h : ((a1 = 0 ∨ a1 = 1) ∧ wm_Wp 0 238 5 [.ref 89, .null, .int a2, .int a3] (wm_si μ 89 17 a1) Q)) : wm_Ok 0 238 [.ref 89, .int a1, .int a2, .int a3] μ Q := wm_ent (nL := 4) (l := [.ref 89, .int a1, .int a2, .int a3]) (by decide +kernel) (by decide +kernel) (by decide +kernel) rfl rfl (wm_vc mo_238 (rt := none) (by decide +kernel) mc_238 194 h)
-- WindBoatModel.reads(ZII)V, the place 5
set_option maxRecDepth 100000 in
set_option maxHeartbeats 8000000 in
theorem f_238_5 (x2 : Int32) (x3 : Int32) (μ : wm_M) (Q : Option Value → wm_M → Prop) (h : wm_Wp 0 238 10 [.ref 89, .null, .null, .int x3] (wm_si μ 89 5 x2) Q) : wm_Wp 0 238 5 [.ref 89, .null, .int x2, .int x3] μ Q := wm_vc mo_238 (rt := none) (by decide +kernel) mc_238 194 h
-- WindBoatModel.reads(ZII)V, the place 10
set_option maxRecDepth 100000 in
set_option maxHeartbeats 8000000 in
theorem f_238_10 (x3 : Int32) (μ : wm_M) (Q : Option Value → wm_M → Prop) (h : wm_Wp 0 238 15 [.ref 89, .null, .null, .null] (wm_si μ 89 6 x3) Q) : wm_Wp 0 238 10 [.ref 89, .null, .null, .int x3] μ Q := wm_vc mo_238 (rt := none) (by decide +kernel) mc_238 194 h
-- WindBoatModel.reads(ZII)V, the place 15
set_option maxRecDepth 100000 in
set_option maxHeartbeats 8000000 in
theorem f_238_15 (μ : wm_M) (Q : Option Value → wm_M → Prop) (h : wm_Wp 0 238 20 [.ref 89, .null, .null, .null] (wm_si μ 89 7 (0 : Int32)) Q) : wm_Wp 0 238 15 [.ref 89, .null, .null, .null] μ Q := wm_vc mo_238 (rt := none) (by decide +kernel) mc_238 194 h
-- WindBoatModel.reads(ZII)V, the place 20
set_option maxRecDepth 100000 in
set_option maxHeartbeats 8000000 in
theorem f_238_20 (μ : wm_M) (Q : Option Value → wm_M → Prop) (h : wm_Wp 0 238 25 [.ref 89, .null, .null, .null] (wm_si μ 89 11 (0 : Int32)) Q) : wm_Wp 0 238 20 [.ref 89, .null, .null, .null] μ Q := wm_vc mo_238 (rt := none) (by decide +kernel) mc_238 194 h
-- WindBoatModel.reads(ZII)V, the place 25
set_option maxRecDepth 100000 in
set_option maxHeartbeats 8000000 in
theorem f_238_25 (μ : wm_M) (Q : Option Value → wm_M → Prop) (h : (((0 : Int32) = 0 ∨ (0 : Int32) = 1) ∧ wm_Wp 0 238 30 [.ref 89, .null, .null, .null] (wm_si μ 89 12 (0 : Int32)) Q)) : wm_Wp 0 238 25 [.ref 89, .null, .null, .null] μ Q := wm_vc mo_238 (rt := none) (by decide +kernel) mc_238 194 h
-- WindBoatModel.reads(ZII)V, the place 30
set_option maxRecDepth 100000 in
set_option maxHeartbeats 8000000 in
theorem f_238_30 (μ : wm_M) (Q : Option Value → wm_M → Prop) (h : wm_OkV 0 226 [.ref 89] μ (fun μ1 => wm_Wp 0 238 34 [.ref 89, .null, .null, .null] μ1 Q)) : wm_Wp 0 238 30 [.ref 89, .null, .null, .null] μ Q := wm_vc mo_238 (rt := none) (by decide +kernel) mc_238 194 h
-- WindBoatModel.reads(ZII)V, the place 34
set_option maxRecDepth 100000 in
set_option maxHeartbeats 8000000 in
theorem f_238_34 (μ : wm_M) (Q : Option Value → wm_M → Prop) (h : wm_OkI 0 228 [.ref 89, .long (380396 : Int64)] μ (fun r2 μ1 => ((r2 = (0 : Int32) → wm_OkI 0 228 [.ref 89, .long (153623 : Int64)] μ1 (fun r4 μ3 => ((r4 = (0 : Int32) → wm_OkI 0 228 [.ref 89, .long (10819228 : Int64)] μ3 (fun r6 μ5 => ((r6 = (0 : Int32) → wm_Wp 0 238 81 [.ref 89, .null, .null, .null] (wm_si μ5 89 18 (-1 : Int32)) Q) ∧ (¬ r6 = (0 : Int32) → wm_Wp 0 238 81 [.ref 89, .null, .null, .null] (wm_si μ5 89 18 (2 : Int32)) Q)))) ∧ (¬ r4 = (0 : Int32) → wm_Wp 0 238 81 [.ref 89, .null, .null, .null] (wm_si μ3 89 18 (1 : Int32)) Q)))) ∧ (¬ r2 = (0 : Int32) → wm_Wp 0 238 81 [.ref 89, .null, .null, .null] (wm_si μ1 89 18 (0 : Int32)) Q)))) : wm_Wp 0 238 34 [.ref 89, .null, .null, .null] μ Q := wm_vc mo_238 (rt := none) (by decide +kernel) mc_238 194 h
-- WindBoatModel.reads(ZII)V, the place 81
set_option maxRecDepth 100000 in
set_option maxHeartbeats 8000000 in
theorem f_238_81 (μ : wm_M) (Q : Option Value → wm_M → Prop) (h : (((μ.1 89 18) = (-1 : Int32) → wm_OkV 0 227 [.ref 89] μ (fun μ1 => wm_Wp 0 238 93 [.ref 89, .null, .null, .null] μ1 Q)) ∧ (¬ (μ.1 89 18) = (-1 : Int32) → wm_Wp 0 238 93 [.ref 89, .null, .null, .null] μ Q))) : wm_Wp 0 238 81 [.ref 89, .null, .null, .null] μ Q := wm_vc mo_238 (rt := none) (by decide +kernel) mc_238 194 h
-- WindBoatModel.reads(ZII)V, the place 93
set_option maxRecDepth 100000 in
set_option maxHeartbeats 8000000 in
theorem f_238_93 (μ : wm_M) (Q : Option Value → wm_M → Prop) (h : (((μ.1 89 12) = (0 : Int32) → wm_OkV 0 226 [.ref 89] μ (fun μ1 => wm_Wp 0 238 104 [.ref 89, .null, .null, .null] μ1 Q)) ∧ (¬ (μ.1 89 12) = (0 : Int32) → wm_Wp 0 238 104 [.ref 89, .null, .null, .null] μ Q))) : wm_Wp 0 238 93 [.ref 89, .null, .null, .null] μ Q := wm_vc mo_238 (rt := none) (by decide +kernel) mc_238 194 h
-- WindBoatModel.reads(ZII)V, the place 104
set_option maxRecDepth 100000 in
set_option maxHeartbeats 8000000 in
theorem f_238_104 (μ : wm_M) (Q : Option Value → wm_M → Prop) (h : (((μ.1 89 12) = (0 : Int32) → wm_OkI 7 237 [.ref 89] μ (fun r2 μ1 => wm_Wp 0 238 123 [.ref 89, .null, .null, .null] (wm_si μ1 89 19 r2) Q)) ∧ (¬ (μ.1 89 12) = (0 : Int32) → wm_Wp 0 238 123 [.ref 89, .null, .null, .null] (wm_si μ 89 19 (0 : Int32)) Q))) : wm_Wp 0 238 104 [.ref 89, .null, .null, .null] μ Q := wm_vc mo_238 (rt := none) (by decide +kernel) mc_238 194 h
-- WindBoatModel.reads(ZII)V, the place 123
set_option maxRecDepth 100000 in
set_option maxHeartbeats 8000000 in
theorem f_238_123 (μ : wm_M) (Q : Option Value → wm_M → Prop) (h : (((1 : Int32) = 0 ∨ (1 : Int32) = 1) ∧ wm_Wp 0 238 128 [.ref 89, .null, .null, .null] (wm_si μ 89 20 (1 : Int32)) Q)) : wm_Wp 0 238 123 [.ref 89, .null, .null, .null] μ Q := wm_vc mo_238 (rt := none) (by decide +kernel) mc_238 194 h
-- WindBoatModel.reads(ZII)V, the place 128
set_option maxRecDepth 100000 in
set_option maxHeartbeats 8000000 in
theorem f_238_128 (μ : wm_M) (Q : Option Value → wm_M → Prop) (h : wm_OkI 0 228 [.ref 89, .long (249 : Int64)] μ (fun r2 μ1 => ((r2 = (0 : Int32) → wm_Wp 0 238 158 [.ref 89, .null, .null, .null] μ1 Q) ∧ (¬ r2 = (0 : Int32) → wm_Wp 0 238 138 [.ref 89, .null, .null, .null] μ1 Q)))) : wm_Wp 0 238 128 [.ref 89, .null, .null, .null] μ Q := wm_vc mo_238 (rt := none) (by decide +kernel) mc_238 194 h
-- WindBoatModel.reads(ZII)V, the place 138
set_option maxRecDepth 100000 in
set_option maxHeartbeats 8000000 in
theorem f_238_138 (μ : wm_M) (Q : Option Value → wm_M → Prop) (h : wm_OkV 0 226 [.ref 89] μ (fun μ1 => wm_Wp 0 238 142 [.ref 89, .null, .null, .null] μ1 Q)) : wm_Wp 0 238 138 [.ref 89, .null, .null, .null] μ Q := wm_vc mo_238 (rt := none) (by decide +kernel) mc_238 194 h
-- WindBoatModel.reads(ZII)V, the place 142
set_option maxRecDepth 100000 in
set_option maxHeartbeats 8000000 in
theorem f_238_142 (μ : wm_M) (Q : Option Value → wm_M → Prop) (h : wm_OkI 7 237 [.ref 89] μ (fun r2 μ1 => ((r2 = (0 : Int32) → (((0 : Int32) = 0 ∨ (0 : Int32) = 1) ∧ wm_Wp 0 238 158 [.ref 89, .null, .null, .null] (wm_si μ1 89 20 (0 : Int32)) Q)) ∧ (¬ r2 = (0 : Int32) → (((1 : Int32) = 0 ∨ (1 : Int32) = 1) ∧ wm_Wp 0 238 158 [.ref 89, .null, .null, .null] (wm_si μ1 89 20 (1 : Int32)) Q))))) : wm_Wp 0 238 142 [.ref 89, .null, .null, .null] μ Q := wm_vc mo_238 (rt := none) (by decide +kernel) mc_238 194 h
-- WindBoatModel.reads(ZII)V, the place 158
set_option maxRecDepth 100000 in
set_option maxHeartbeats 8000000 in
theorem f_238_158 (μ : wm_M) (Q : Option Value → wm_M → Prop) (h : (((μ.1 89 12) = (0 : Int32) → (((μ.1 89 8) = (0 : Int32) → wm_Wp 0 238 176 [.null, .null, .null, .null] μ Q) ∧ (¬ (μ.1 89 8) = (0 : Int32) → wm_OkV 0 227 [.ref 89] μ (fun μ1 => wm_Wp 0 238 176 [.null, .null, .null, .null] μ1 Q)))) ∧ (¬ (μ.1 89 12) = (0 : Int32) → wm_Wp 0 238 176 [.null, .null, .null, .null] μ Q))) : wm_Wp 0 238 158 [.ref 89, .null, .null, .null] μ Q := wm_vc mo_238 (rt := none) (by decide +kernel) mc_238 194 h
-- WindBoatModel.reads(ZII)V, the place 176
set_option maxRecDepth 100000 in
set_option maxHeartbeats 8000000 in
theorem f_238_176 (μ : wm_M) (Q : Option Value → wm_M → Prop) (h : Q none μ) : wm_Wp 0 238 176 [.null, .null, .null, .null] μ Q := wm_vc mo_238 (rt := none) (by decide +kernel) mc_238 194 h
-- WindBoatModel.rule(II)I
set_option maxRecDepth 100000 in
set_option maxHeartbeats 8000000 in
theorem f_239 (a1 : Int32) (a2 : Int32) (μ : wm_M) (Q : Option Value → wm_M → Prop) (h : wm_OkI 0 184 [.int a1, .int (0 : Int32), .int (12 : Int32)] μ (fun r2 μ1 => ((r2 = (0 : Int32) → wm_Wp 0 239 25 [.ref 89, .null, .null, .null, .null] μ1 Q) ∧ (¬ r2 = (0 : Int32) → wm_Wp 0 239 10 [.ref 89, .int a1, .int a2, .null, .null] μ1 Q)))) : wm_Ok 0 239 [.ref 89, .int a1, .int a2] μ Q := wm_ent (nL := 5) (l := [.ref 89, .int a1, .int a2, .null, .null]) (by decide +kernel) (by decide +kernel) (by decide +kernel) rfl rfl (wm_vc mo_239 (rt := some .int) (by decide +kernel) mc_239 248 h)
-- WindBoatModel.rule(II)I, the place 10
set_option maxRecDepth 100000 in
set_option maxHeartbeats 8000000 in
theorem f_239_10 (x1 : Int32) (x2 : Int32) (μ : wm_M) (Q : Option Value → wm_M → Prop) (h : wm_OkI 0 184 [.int x2, .int (0 : Int32), .int (12 : Int32)] μ (fun r2 μ1 => ((r2 = (0 : Int32) → wm_Wp 0 239 25 [.ref 89, .null, .null, .null, .null] μ1 Q) ∧ (¬ r2 = (0 : Int32) → wm_Wp 0 239 20 [.ref 89, .int x1, .int x2, .null, .null] μ1 Q)))) : wm_Wp 0 239 10 [.ref 89, .int x1, .int x2, .null, .null] μ Q := wm_vc mo_239 (rt := some .int) (by decide +kernel) mc_239 248 h
-- WindBoatModel.rule(II)I, the place 20
set_option maxRecDepth 100000 in
set_option maxHeartbeats 8000000 in
theorem f_239_20 (x1 : Int32) (x2 : Int32) (μ : wm_M) (Q : Option Value → wm_M → Prop) (h : ((x1 < x2 → wm_Wp 0 239 32 [.ref 89, .int x1, .int x2, .null, .null] μ Q) ∧ (¬ x1 < x2 → wm_Wp 0 239 25 [.ref 89, .null, .null, .null, .null] μ Q))) : wm_Wp 0 239 20 [.ref 89, .int x1, .int x2, .null, .null] μ Q := wm_vc mo_239 (rt := some .int) (by decide +kernel) mc_239 248 h
-- WindBoatModel.rule(II)I, the place 25
set_option maxRecDepth 100000 in
set_option maxHeartbeats 8000000 in
theorem f_239_25 (μ : wm_M) (Q : Option Value → wm_M → Prop) (h : wm_OkI 0 185 [.ref 89, .int (-7 : Int32)] μ (fun r2 μ1 => Q (some (.int r2)) μ1)) : wm_Wp 0 239 25 [.ref 89, .null, .null, .null, .null] μ Q := wm_vc mo_239 (rt := some .int) (by decide +kernel) mc_239 248 h
-- WindBoatModel.rule(II)I, the place 32
set_option maxRecDepth 100000 in
set_option maxHeartbeats 8000000 in
theorem f_239_32 (x1 : Int32) (x2 : Int32) (μ : wm_M) (Q : Option Value → wm_M → Prop) (h : wm_OkI 0 188 [.ref 89, .int (2 : Int32)] μ (fun r2 μ1 => ((r2 = (12 : Int32) → wm_Wp 0 239 42 [.ref 89, .null, .null, .null, .null] μ1 Q) ∧ (¬ r2 = (12 : Int32) → wm_Wp 0 239 49 [.ref 89, .int x1, .int x2, .null, .null] μ1 Q)))) : wm_Wp 0 239 32 [.ref 89, .int x1, .int x2, .null, .null] μ Q := wm_vc mo_239 (rt := some .int) (by decide +kernel) mc_239 248 h
-- WindBoatModel.rule(II)I, the place 42
set_option maxRecDepth 100000 in
set_option maxHeartbeats 8000000 in
theorem f_239_42 (μ : wm_M) (Q : Option Value → wm_M → Prop) (h : wm_OkI 0 185 [.ref 89, .int (-8 : Int32)] μ (fun r2 μ1 => Q (some (.int r2)) μ1)) : wm_Wp 0 239 42 [.ref 89, .null, .null, .null, .null] μ Q := wm_vc mo_239 (rt := some .int) (by decide +kernel) mc_239 248 h
-- WindBoatModel.rule(II)I, the place 49
set_option maxRecDepth 100000 in
set_option maxHeartbeats 8000000 in
theorem f_239_49 (x1 : Int32) (x2 : Int32) (μ : wm_M) (Q : Option Value → wm_M → Prop) (h : wm_Wp 0 239 54 [.ref 89, .int x1, .int x2, .null, .null] (wm_si μ 89 14 (0 : Int32)) Q) : wm_Wp 0 239 49 [.ref 89, .int x1, .int x2, .null, .null] μ Q := wm_vc mo_239 (rt := some .int) (by decide +kernel) mc_239 248 h
-- WindBoatModel.rule(II)I, the place 54
set_option maxRecDepth 100000 in
set_option maxHeartbeats 8000000 in
theorem f_239_54 (x1 : Int32) (x2 : Int32) (μ : wm_M) (Q : Option Value → wm_M → Prop) (h : wm_Wp 0 239 59 [.ref 89, .int x1, .int x2, .null, .null] (wm_si μ 89 15 (0 : Int32)) Q) : wm_Wp 0 239 54 [.ref 89, .int x1, .int x2, .null, .null] μ Q := wm_vc mo_239 (rt := some .int) (by decide +kernel) mc_239 248 h
-- WindBoatModel.rule(II)I, the place 59
set_option maxRecDepth 100000 in
set_option maxHeartbeats 8000000 in
theorem f_239_59 (x1 : Int32) (x2 : Int32) (μ : wm_M) (Q : Option Value → wm_M → Prop) (h : wm_Wp 0 239 64 [.ref 89, .int x1, .int x2, .null, .null] (wm_si μ 89 16 (0 : Int32)) Q) : wm_Wp 0 239 59 [.ref 89, .int x1, .int x2, .null, .null] μ Q := wm_vc mo_239 (rt := some .int) (by decide +kernel) mc_239 248 h
-- WindBoatModel.rule(II)I, the place 64
set_option maxRecDepth 100000 in
set_option maxHeartbeats 8000000 in
theorem f_239_64 (x1 : Int32) (x2 : Int32) (μ : wm_M) (Q : Option Value → wm_M → Prop) (h : wm_OkV 0 238 [.ref 89, .int (1 : Int32), .int (0 : Int32), .int (μ.1 89 4)] μ (fun μ1 => wm_Wp 0 239 74 [.ref 89, .int x1, .int x2, .null, .null] μ1 Q)) : wm_Wp 0 239 64 [.ref 89, .int x1, .int x2, .null, .null] μ Q := wm_vc mo_239 (rt := some .int) (by decide +kernel) mc_239 248 h
-- WindBoatModel.rule(II)I, the place 74
set_option maxRecDepth 100000 in
set_option maxHeartbeats 8000000 in
theorem f_239_74 (x1 : Int32) (x2 : Int32) (μ : wm_M) (Q : Option Value → wm_M → Prop) (h : (((μ.1 89 12) = (0 : Int32) → wm_Wp 0 239 89 [.ref 89, .int x1, .int x2, .null, .null] μ Q) ∧ (¬ (μ.1 89 12) = (0 : Int32) → Q (some (.int ((-10 : Int32) - (μ.1 89 13)))) μ))) : wm_Wp 0 239 74 [.ref 89, .int x1, .int x2, .null, .null] μ Q := wm_vc mo_239 (rt := some .int) (by decide +kernel) mc_239 248 h
-- WindBoatModel.rule(II)I, the place 89
set_option maxRecDepth 100000 in
set_option maxHeartbeats 8000000 in
theorem f_239_89 (x1 : Int32) (x2 : Int32) (μ : wm_M) (Q : Option Value → wm_M → Prop) (h : wm_OkI 0 188 [.ref 89, .int (2 : Int32)] μ (fun r2 μ1 => wm_Wp 0 239 102 [.ref 89, .int x1, .int x2, .int ((471 : Int32) + ((127 : Int32) * r2)), .null] μ1 Q)) : wm_Wp 0 239 89 [.ref 89, .int x1, .int x2, .null, .null] μ Q := wm_vc mo_239 (rt := some .int) (by decide +kernel) mc_239 248 h
-- WindBoatModel.rule(II)I, the place 102
set_option maxRecDepth 100000 in
set_option maxHeartbeats 8000000 in
theorem f_239_102 (x1 : Int32) (x2 : Int32) (x3 : Int32) (μ : wm_M) (Q : Option Value → wm_M → Prop) (h : (vp_in x3 2060 ∧ wm_Wp 0 239 109 [.ref 89, .null, .int x2, .int x3, .null] (wm_si μ 91 (x3).toNatClampNeg x1) Q)) : wm_Wp 0 239 102 [.ref 89, .int x1, .int x2, .int x3, .null] μ Q := wm_vc mo_239 (rt := some .int) (by decide +kernel) mc_239 248 h
-- WindBoatModel.rule(II)I, the place 109
set_option maxRecDepth 100000 in
set_option maxHeartbeats 8000000 in
theorem f_239_109 (x2 : Int32) (x3 : Int32) (μ : wm_M) (Q : Option Value → wm_M → Prop) (h : (vp_in (x3 + (1 : Int32)) 2060 ∧ wm_Wp 0 239 118 [.ref 89, .null, .null, .int x3, .null] (wm_si μ 91 ((x3 + (1 : Int32))).toNatClampNeg x2) Q)) : wm_Wp 0 239 109 [.ref 89, .null, .int x2, .int x3, .null] μ Q := wm_vc mo_239 (rt := some .int) (by decide +kernel) mc_239 248 h
-- WindBoatModel.rule(II)I, the place 118
set_option maxRecDepth 100000 in
set_option maxHeartbeats 8000000 in
theorem f_239_118 (x3 : Int32) (μ : wm_M) (Q : Option Value → wm_M → Prop) (h : (vp_in (x3 + (2 : Int32)) 2060 ∧ wm_Wp 0 239 130 [.ref 89, .null, .null, .int x3, .null] (wm_si μ 91 ((x3 + (2 : Int32))).toNatClampNeg (μ.1 89 4)) Q)) : wm_Wp 0 239 118 [.ref 89, .null, .null, .int x3, .null] μ Q := wm_vc mo_239 (rt := some .int) (by decide +kernel) mc_239 248 h
-- WindBoatModel.rule(II)I, the place 130
set_option maxRecDepth 100000 in
set_option maxHeartbeats 8000000 in
theorem f_239_130 (x3 : Int32) (μ : wm_M) (Q : Option Value → wm_M → Prop) (h : wm_Wp 0 239 133 [.ref 89, .null, .null, .int x3, .int (0 : Int32)] μ Q) : wm_Wp 0 239 130 [.ref 89, .null, .null, .int x3, .null] μ Q := wm_vc mo_239 (rt := some .int) (by decide +kernel) mc_239 248 h
-- WindBoatModel.rule(II)I, the place 133
set_option maxRecDepth 100000 in
set_option maxHeartbeats 8000000 in
theorem f_239_133 (x3 : Int32) (x4 : Int32) (μ : wm_M) (Q : Option Value → wm_M → Prop) (h : (((μ.1 89 4) ≤ x4 → wm_Wp 0 239 166 [.ref 89, .null, .null, .null, .null] μ Q) ∧ (¬ (μ.1 89 4) ≤ x4 → (vp_in x4 120 ∧ (vp_in ((x3 + (3 : Int32)) + x4) 2060 ∧ wm_Wp 0 239 160 [.ref 89, .null, .null, .int x3, .int x4] (wm_si μ 91 (((x3 + (3 : Int32)) + x4)).toNatClampNeg (μ.1 92 (x4).toNatClampNeg)) Q))))) : wm_Wp 0 239 133 [.ref 89, .null, .null, .int x3, .int x4] μ Q := wm_vc mo_239 (rt := some .int) (by decide +kernel) mc_239 248 h
-- WindBoatModel.rule(II)I, the place 160
set_option maxRecDepth 100000 in
set_option maxHeartbeats 8000000 in
theorem f_239_160 (x3 : Int32) (x4 : Int32) (μ : wm_M) (Q : Option Value → wm_M → Prop) (h : wm_Wp 0 239 133 [.ref 89, .null, .null, .int x3, .int (x4 + (1 : Int32))] μ Q) : wm_Wp 0 239 160 [.ref 89, .null, .null, .int x3, .int x4] μ Q := wm_vc mo_239 (rt := some .int) (by decide +kernel) mc_239 248 h
-- WindBoatModel.rule(II)I, the place 166
set_option maxRecDepth 100000 in
set_option maxHeartbeats 8000000 in
theorem f_239_166 (μ : wm_M) (Q : Option Value → wm_M → Prop) (h : wm_Wp 0 239 171 [.ref 89, .null, .null, .null, .null] (wm_si μ 89 4 (0 : Int32)) Q) : wm_Wp 0 239 166 [.ref 89, .null, .null, .null, .null] μ Q := wm_vc mo_239 (rt := some .int) (by decide +kernel) mc_239 248 h
-- WindBoatModel.rule(II)I, the place 171
set_option maxRecDepth 100000 in
set_option maxHeartbeats 8000000 in
theorem f_239_171 (μ : wm_M) (Q : Option Value → wm_M → Prop) (h : (vp_in (2042 : Int32) 2060 ∧ (vp_in (2042 : Int32) 2060 ∧ wm_Wp 0 239 183 [.ref 89, .null, .null, .null, .null] (wm_si μ 91 ((2042 : Int32)).toNatClampNeg ((μ.1 91 ((2042 : Int32)).toNatClampNeg) + (1 : Int32))) Q))) : wm_Wp 0 239 171 [.ref 89, .null, .null, .null, .null] μ Q := wm_vc mo_239 (rt := some .int) (by decide +kernel) mc_239 248 h
-- WindBoatModel.rule(II)I, the place 183
set_option maxRecDepth 100000 in
set_option maxHeartbeats 8000000 in
theorem f_239_183 (μ : wm_M) (Q : Option Value → wm_M → Prop) (h : wm_OkI 0 188 [.ref 89, .int (2 : Int32)] μ (fun r2 μ1 => Q (some (.int (r2 - (1 : Int32)))) μ1)) : wm_Wp 0 239 183 [.ref 89, .null, .null, .null, .null] μ Q := wm_vc mo_239 (rt := some .int) (by decide +kernel) mc_239 248 h
-- WindBoatModel.ruleOf(IIII)I
set_option maxRecDepth 100000 in
set_option maxHeartbeats 8000000 in
theorem f_240 (a1 : Int32) (a2 : Int32) (a3 : Int32) (a4 : Int32) (μ : wm_M) (Q : Option Value → wm_M → Prop) (h : wm_Wp 0 240 5 [.ref 89, .int a1, .int a2, .null, .int a4, .null, .null] (wm_si μ 89 14 a3) Q) : wm_Ok 0 240 [.ref 89, .int a1, .int a2, .int a3, .int a4] μ Q := wm_ent (nL := 7) (l := [.ref 89, .int a1, .int a2, .int a3, .int a4, .null, .null]) (by decide +kernel) (by decide +kernel) (by decide +kernel) rfl rfl (wm_vc mo_240 (rt := some .int) (by decide +kernel) mc_240 170 h)
-- WindBoatModel.ruleOf(IIII)I, the place 5
set_option maxRecDepth 100000 in
set_option maxHeartbeats 8000000 in
theorem f_240_5 (x1 : Int32) (x2 : Int32) (x4 : Int32) (μ : wm_M) (Q : Option Value → wm_M → Prop) (h : wm_Wp 0 240 10 [.ref 89, .int x1, .null, .null, .int x4, .null, .null] (wm_si μ 89 15 x2) Q) : wm_Wp 0 240 5 [.ref 89, .int x1, .int x2, .null, .int x4, .null, .null] μ Q := wm_vc mo_240 (rt := some .int) (by decide +kernel) mc_240 170 h
-- WindBoatModel.ruleOf(IIII)I, the place 10
set_option maxRecDepth 100000 in
set_option maxHeartbeats 8000000 in
theorem f_240_10 (x1 : Int32) (x4 : Int32) (μ : wm_M) (Q : Option Value → wm_M → Prop) (h : wm_Wp 0 240 16 [.ref 89, .int x1, .null, .null, .int x4, .null, .null] (wm_si μ 89 16 x4) Q) : wm_Wp 0 240 10 [.ref 89, .int x1, .null, .null, .int x4, .null, .null] μ Q := wm_vc mo_240 (rt := some .int) (by decide +kernel) mc_240 170 h
-- WindBoatModel.ruleOf(IIII)I, the place 16
set_option maxRecDepth 100000 in
set_option maxHeartbeats 8000000 in
theorem f_240_16 (x1 : Int32) (x4 : Int32) (μ : wm_M) (Q : Option Value → wm_M → Prop) (h : wm_OkI 0 188 [.ref 89, .int (2 : Int32)] μ (fun r2 μ1 => wm_Wp 0 240 25 [.ref 89, .int x1, .null, .null, .int x4, .int (r2 - (1 : Int32)), .null] μ1 Q)) : wm_Wp 0 240 16 [.ref 89, .int x1, .null, .null, .int x4, .null, .null] μ Q := wm_vc mo_240 (rt := some .int) (by decide +kernel) mc_240 170 h
-- WindBoatModel.ruleOf(IIII)I, the place 25
set_option maxRecDepth 100000 in
set_option maxHeartbeats 8000000 in
theorem f_240_25 (x1 : Int32) (x4 : Int32) (x5 : Int32) (μ : wm_M) (Q : Option Value → wm_M → Prop) (h : ((x5 < (0 : Int32) → wm_Wp 0 240 112 [.ref 89, .int x1, .null, .null, .null, .null, .null] μ Q) ∧ (¬ x5 < (0 : Int32) → (vp_in ((471 : Int32) + ((127 : Int32) * x5)) 2060 ∧ ((x4 < (μ.1 91 (((471 : Int32) + ((127 : Int32) * x5))).toNatClampNeg) → wm_Wp 0 240 106 [.ref 89, .int x1, .null, .null, .int x4, .int x5, .null] μ Q) ∧ (¬ x4 < (μ.1 91 (((471 : Int32) + ((127 : Int32) * x5))).toNatClampNeg) → wm_Wp 0 240 53 [.ref 89, .int x1, .null, .null, .int x4, .int x5, .int ((471 : Int32) + ((127 : Int32) * x5))] μ Q)))))) : wm_Wp 0 240 25 [.ref 89, .int x1, .null, .null, .int x4, .int x5, .null] μ Q := wm_vc mo_240 (rt := some .int) (by decide +kernel) mc_240 170 h
-- WindBoatModel.ruleOf(IIII)I, the place 53
set_option maxRecDepth 100000 in
set_option maxHeartbeats 8000000 in
theorem f_240_53 (x1 : Int32) (x4 : Int32) (x5 : Int32) (x6 : Int32) (μ : wm_M) (Q : Option Value → wm_M → Prop) (h : (vp_in (x6 + (1 : Int32)) 2060 ∧ ((x4 < (μ.1 91 ((x6 + (1 : Int32))).toNatClampNeg) → wm_Wp 0 240 70 [.ref 89, .int x1, .null, .null, .int x4, .int x5, .int x6] μ Q) ∧ (¬ x4 < (μ.1 91 ((x6 + (1 : Int32))).toNatClampNeg) → wm_Wp 0 240 106 [.ref 89, .int x1, .null, .null, .int x4, .int x5, .null] μ Q)))) : wm_Wp 0 240 53 [.ref 89, .int x1, .null, .null, .int x4, .int x5, .int x6] μ Q := wm_vc mo_240 (rt := some .int) (by decide +kernel) mc_240 170 h
-- WindBoatModel.ruleOf(IIII)I, the place 70
set_option maxRecDepth 100000 in
set_option maxHeartbeats 8000000 in
theorem f_240_70 (x1 : Int32) (x4 : Int32) (x5 : Int32) (x6 : Int32) (μ : wm_M) (Q : Option Value → wm_M → Prop) (h : (vp_in (x6 + (2 : Int32)) 2060 ∧ wm_OkV 0 238 [.ref 89, .int (0 : Int32), .int (x6 + (3 : Int32)), .int (μ.1 91 ((x6 + (2 : Int32))).toNatClampNeg)] μ (fun μ1 => wm_Wp 0 240 88 [.ref 89, .int x1, .null, .null, .int x4, .int x5, .null] μ1 Q))) : wm_Wp 0 240 70 [.ref 89, .int x1, .null, .null, .int x4, .int x5, .int x6] μ Q := wm_vc mo_240 (rt := some .int) (by decide +kernel) mc_240 170 h
-- WindBoatModel.ruleOf(IIII)I, the place 88
set_option maxRecDepth 100000 in
set_option maxHeartbeats 8000000 in
theorem f_240_88 (x1 : Int32) (x4 : Int32) (x5 : Int32) (μ : wm_M) (Q : Option Value → wm_M → Prop) (h : (((μ.1 89 18) = x1 → (((μ.1 89 20) = (0 : Int32) → wm_Wp 0 240 106 [.ref 89, .int x1, .null, .null, .int x4, .int x5, .null] μ Q) ∧ (¬ (μ.1 89 20) = (0 : Int32) → Q (some (.int x5)) μ))) ∧ (¬ (μ.1 89 18) = x1 → wm_Wp 0 240 106 [.ref 89, .int x1, .null, .null, .int x4, .int x5, .null] μ Q))) : wm_Wp 0 240 88 [.ref 89, .int x1, .null, .null, .int x4, .int x5, .null] μ Q := wm_vc mo_240 (rt := some .int) (by decide +kernel) mc_240 170 h
-- WindBoatModel.ruleOf(IIII)I, the place 106
set_option maxRecDepth 100000 in
set_option maxHeartbeats 8000000 in
theorem f_240_106 (x1 : Int32) (x4 : Int32) (x5 : Int32) (μ : wm_M) (Q : Option Value → wm_M → Prop) (h : wm_Wp 0 240 25 [.ref 89, .int x1, .null, .null, .int x4, .int (x5 + (-1 : Int32)), .null] μ Q) : wm_Wp 0 240 106 [.ref 89, .int x1, .null, .null, .int x4, .int x5, .null] μ Q := wm_vc mo_240 (rt := some .int) (by decide +kernel) mc_240 170 h
-- WindBoatModel.ruleOf(IIII)I, the place 112
set_option maxRecDepth 100000 in
set_option maxHeartbeats 8000000 in
theorem f_240_112 (x1 : Int32) (μ : wm_M) (Q : Option Value → wm_M → Prop) (h : ((x1 = (0 : Int32) → wm_Wp 0 240 136 [.null, .null, .null, .null, .null, .null, .null] (wm_si μ 89 19 (0 : Int32)) Q) ∧ (¬ x1 = (0 : Int32) → ((x1 = (1 : Int32) → wm_Wp 0 240 136 [.null, .null, .null, .null, .null, .null, .null] (wm_si μ 89 19 (39 : Int32)) Q) ∧ (¬ x1 = (1 : Int32) → wm_Wp 0 240 136 [.null, .null, .null, .null, .null, .null, .null] (wm_si μ 89 19 (40 : Int32)) Q))))) : wm_Wp 0 240 112 [.ref 89, .int x1, .null, .null, .null, .null, .null] μ Q := wm_vc mo_240 (rt := some .int) (by decide +kernel) mc_240 170 h
-- WindBoatModel.ruleOf(IIII)I, the place 136
set_option maxRecDepth 100000 in
set_option maxHeartbeats 8000000 in
theorem f_240_136 (μ : wm_M) (Q : Option Value → wm_M → Prop) (h : Q (some (.int (-1 : Int32))) μ) : wm_Wp 0 240 136 [.null, .null, .null, .null, .null, .null, .null] μ Q := wm_vc mo_240 (rt := some .int) (by decide +kernel) mc_240 170 h
-- WindBoatModel.told(IIII)I
set_option maxRecDepth 100000 in
set_option maxHeartbeats 8000000 in
theorem f_241 (a1 : Int32) (a2 : Int32) (a3 : Int32) (a4 : Int32) (μ : wm_M) (Q : Option Value → wm_M → Prop) (h : wm_OkI 0 240 [.ref 89, .int a1, .int a2, .int a3, .int a4] μ (fun r2 μ1 => wm_Wp 0 241 11 [.ref 89, .null, .null, .null, .null, .null] μ1 Q)) : wm_Ok 0 241 [.ref 89, .int a1, .int a2, .int a3, .int a4] μ Q := wm_ent (nL := 6) (l := [.ref 89, .int a1, .int a2, .int a3, .int a4, .null]) (by decide +kernel) (by decide +kernel) (by decide +kernel) rfl rfl (wm_vc mo_241 (rt := some .int) (by decide +kernel) mc_241 40 h)
-- WindBoatModel.told(IIII)I, the place 11
set_option maxRecDepth 100000 in
set_option maxHeartbeats 8000000 in
theorem f_241_11 (μ : wm_M) (Q : Option Value → wm_M → Prop) (h : Q (some (.int (μ.1 89 19))) μ) : wm_Wp 0 241 11 [.ref 89, .null, .null, .null, .null, .null] μ Q := wm_vc mo_241 (rt := some .int) (by decide +kernel) mc_241 40 h
-- WindBoatModel.isAsk(III)Z
set_option maxRecDepth 100000 in
set_option maxHeartbeats 8000000 in
theorem f_242 (a1 : Int32) (a2 : Int32) (a3 : Int32) (μ : wm_M) (Q : Option Value → wm_M → Prop) (h : ((a1 < (0 : Int32) → wm_Wp 0 242 45 [.null, .null, .null, .null] μ Q) ∧ (¬ a1 < (0 : Int32) → (¬ (10 : Int32) = 0 ∧ wm_OkI 0 184 [.int (a1 / (10 : Int32)), .int (0 : Int32), .int (2 : Int32)] μ (fun r2 μ1 => ((r2 = (0 : Int32) → wm_Wp 0 242 45 [.null, .null, .null, .null] μ1 Q) ∧ (¬ r2 = (0 : Int32) → wm_Wp 0 242 16 [.ref 89, .int a1, .int a2, .int a3] μ1 Q))))))) : wm_Ok 0 242 [.ref 89, .int a1, .int a2, .int a3] μ Q := wm_ent (nL := 4) (l := [.ref 89, .int a1, .int a2, .int a3]) (by decide +kernel) (by decide +kernel) (by decide +kernel) rfl rfl (wm_vc mo_242 (rt := some .boolean) (by decide +kernel) mc_242 70 h)
-- WindBoatModel.isAsk(III)Z, the place 16
set_option maxRecDepth 100000 in
set_option maxHeartbeats 8000000 in
theorem f_242_16 (x1 : Int32) (x2 : Int32) (x3 : Int32) (μ : wm_M) (Q : Option Value → wm_M → Prop) (h : (¬ (10 : Int32) = 0 ∧ wm_OkI 0 191 [.ref 89, .int (x1 - x1 / (10 : Int32) * (10 : Int32))] μ (fun r2 μ1 => ((r2 = (0 : Int32) → wm_Wp 0 242 45 [.null, .null, .null, .null] μ1 Q) ∧ (¬ r2 = (0 : Int32) → wm_Wp 0 242 27 [.null, .null, .int x2, .int x3] μ1 Q))))) : wm_Wp 0 242 16 [.ref 89, .int x1, .int x2, .int x3] μ Q := wm_vc mo_242 (rt := some .boolean) (by decide +kernel) mc_242 70 h
-- WindBoatModel.isAsk(III)Z, the place 27
set_option maxRecDepth 100000 in
set_option maxHeartbeats 8000000 in
theorem f_242_27 (x2 : Int32) (x3 : Int32) (μ : wm_M) (Q : Option Value → wm_M → Prop) (h : wm_OkI 0 189 [.int x2] μ (fun r2 μ1 => ((r2 = (0 : Int32) → wm_Wp 0 242 45 [.null, .null, .null, .null] μ1 Q) ∧ (¬ r2 = (0 : Int32) → wm_Wp 0 242 34 [.null, .null, .null, .int x3] μ1 Q)))) : wm_Wp 0 242 27 [.null, .null, .int x2, .int x3] μ Q := wm_vc mo_242 (rt := some .boolean) (by decide +kernel) mc_242 70 h
-- WindBoatModel.isAsk(III)Z, the place 34
set_option maxRecDepth 100000 in
set_option maxHeartbeats 8000000 in
theorem f_242_34 (x3 : Int32) (μ : wm_M) (Q : Option Value → wm_M → Prop) (h : wm_OkI 0 190 [.int x3] μ (fun r2 μ1 => ((r2 = (0 : Int32) → wm_Wp 0 242 45 [.null, .null, .null, .null] μ1 Q) ∧ (¬ r2 = (0 : Int32) → wm_Wp 0 242 41 [.null, .null, .null, .null] μ1 Q)))) : wm_Wp 0 242 34 [.null, .null, .null, .int x3] μ Q := wm_vc mo_242 (rt := some .boolean) (by decide +kernel) mc_242 70 h
-- WindBoatModel.isAsk(III)Z, the place 41
set_option maxRecDepth 100000 in
set_option maxHeartbeats 8000000 in
theorem f_242_41 (μ : wm_M) (Q : Option Value → wm_M → Prop) (h : (((1 : Int32) = 0 ∨ (1 : Int32) = 1) ∧ Q (some (.int (1 : Int32))) μ)) : wm_Wp 0 242 41 [.null, .null, .null, .null] μ Q := wm_vc mo_242 (rt := some .boolean) (by decide +kernel) mc_242 70 h
-- WindBoatModel.isAsk(III)Z, the place 45
set_option maxRecDepth 100000 in
set_option maxHeartbeats 8000000 in
theorem f_242_45 (μ : wm_M) (Q : Option Value → wm_M → Prop) (h : (((0 : Int32) = 0 ∨ (0 : Int32) = 1) ∧ Q (some (.int (0 : Int32))) μ)) : wm_Wp 0 242 45 [.null, .null, .null, .null] μ Q := wm_vc mo_242 (rt := some .boolean) (by decide +kernel) mc_242 70 h
-- WindBoatModel.says(III)I
set_option maxRecDepth 100000 in
set_option maxHeartbeats 8000000 in
theorem f_243 (a1 : Int32) (a2 : Int32) (a3 : Int32) (μ : wm_M) (Q : Option Value → wm_M → Prop) (h : wm_OkI 0 242 [.ref 89, .int a1, .int a2, .int a3] μ (fun r2 μ1 => ((r2 = (0 : Int32) → wm_Wp 0 243 27 [.ref 89, .null, .null, .null] μ1 Q) ∧ (¬ r2 = (0 : Int32) → wm_Wp 0 243 10 [.ref 89, .int a1, .int a2, .int a3] μ1 Q)))) : wm_Ok 0 243 [.ref 89, .int a1, .int a2, .int a3] μ Q := wm_ent (nL := 4) (l := [.ref 89, .int a1, .int a2, .int a3]) (by decide +kernel) (by decide +kernel) (by decide +kernel) rfl rfl (wm_vc mo_243 (rt := some .int) (by decide +kernel) mc_243 62 h)
-- WindBoatModel.says(III)I, the place 10
set_option maxRecDepth 100000 in
set_option maxHeartbeats 8000000 in
theorem f_243_10 (x1 : Int32) (x2 : Int32) (x3 : Int32) (μ : wm_M) (Q : Option Value → wm_M → Prop) (h : (¬ (10 : Int32) = 0 ∧ (¬ (10 : Int32) = 0 ∧ wm_OkI 0 241 [.ref 89, .int (x1 / (10 : Int32)), .int (x1 - x1 / (10 : Int32) * (10 : Int32)), .int x2, .int x3] μ (fun r2 μ1 => Q (some (.int r2)) μ1)))) : wm_Wp 0 243 10 [.ref 89, .int x1, .int x2, .int x3] μ Q := wm_vc mo_243 (rt := some .int) (by decide +kernel) mc_243 62 h
-- WindBoatModel.says(III)I, the place 27
set_option maxRecDepth 100000 in
set_option maxHeartbeats 8000000 in
theorem f_243_27 (μ : wm_M) (Q : Option Value → wm_M → Prop) (h : wm_OkI 0 186 [.ref 89, .int (-3 : Int32)] μ (fun r2 μ1 => Q (some (.int r2)) μ1)) : wm_Wp 0 243 27 [.ref 89, .null, .null, .null] μ Q := wm_vc mo_243 (rt := some .int) (by decide +kernel) mc_243 62 h
-- WindBoatModel.why(III)I
set_option maxRecDepth 100000 in
set_option maxHeartbeats 8000000 in
theorem f_244 (a1 : Int32) (a2 : Int32) (a3 : Int32) (μ : wm_M) (Q : Option Value → wm_M → Prop) (h : wm_OkI 0 242 [.ref 89, .int a1, .int a2, .int a3] μ (fun r2 μ1 => ((r2 = (0 : Int32) → wm_Wp 0 244 27 [.ref 89, .null, .null, .null] μ1 Q) ∧ (¬ r2 = (0 : Int32) → wm_Wp 0 244 10 [.ref 89, .int a1, .int a2, .int a3] μ1 Q)))) : wm_Ok 0 244 [.ref 89, .int a1, .int a2, .int a3] μ Q := wm_ent (nL := 4) (l := [.ref 89, .int a1, .int a2, .int a3]) (by decide +kernel) (by decide +kernel) (by decide +kernel) rfl rfl (wm_vc mo_244 (rt := some .int) (by decide +kernel) mc_244 62 h)
-- WindBoatModel.why(III)I, the place 10
set_option maxRecDepth 100000 in
set_option maxHeartbeats 8000000 in
theorem f_244_10 (x1 : Int32) (x2 : Int32) (x3 : Int32) (μ : wm_M) (Q : Option Value → wm_M → Prop) (h : (¬ (10 : Int32) = 0 ∧ (¬ (10 : Int32) = 0 ∧ wm_OkI 0 240 [.ref 89, .int (x1 / (10 : Int32)), .int (x1 - x1 / (10 : Int32) * (10 : Int32)), .int x2, .int x3] μ (fun r2 μ1 => Q (some (.int r2)) μ1)))) : wm_Wp 0 244 10 [.ref 89, .int x1, .int x2, .int x3] μ Q := wm_vc mo_244 (rt := some .int) (by decide +kernel) mc_244 62 h
-- WindBoatModel.why(III)I, the place 27
set_option maxRecDepth 100000 in
set_option maxHeartbeats 8000000 in
theorem f_244_27 (μ : wm_M) (Q : Option Value → wm_M → Prop) (h : wm_OkI 0 185 [.ref 89, .int (-3 : Int32)] μ (fun r2 μ1 => Q (some (.int r2)) μ1)) : wm_Wp 0 244 27 [.ref 89, .null, .null, .null] μ Q := wm_vc mo_244 (rt := some .int) (by decide +kernel) mc_244 62 h
-- WindBoatModel.laysRule(III)V
set_option maxRecDepth 100000 in
set_option maxHeartbeats 8000000 in
theorem f_245 (a1 : Int32) (a2 : Int32) (a3 : Int32) (μ : wm_M) (Q : Option Value → wm_M → Prop) (h : wm_OkI 0 188 [.ref 89, .int (2 : Int32)] μ (fun r2 μ1 => ((r2 = (0 : Int32) → (vp_in (((3 : Int32) * (((36 : Int32) * a1) + a2)) + a3) 1296 ∧ wm_Wp 0 245 39 [.ref 89, .int a1, .int a2, .int a3, .int (((3 : Int32) * (((36 : Int32) * a1) + a2)) + a3)] (wm_si μ1 93 ((((3 : Int32) * (((36 : Int32) * a1) + a2)) + a3)).toNatClampNeg (0 : Int32)) Q)) ∧ (¬ r2 = (0 : Int32) → wm_OkI 0 241 [.ref 89, .int (0 : Int32), .int a3, .int a2, .int a1] μ1 (fun r4 μ3 => (vp_in (((3 : Int32) * (((36 : Int32) * a1) + a2)) + a3) 1296 ∧ wm_Wp 0 245 39 [.ref 89, .int a1, .int a2, .int a3, .int (((3 : Int32) * (((36 : Int32) * a1) + a2)) + a3)] (wm_si μ3 93 ((((3 : Int32) * (((36 : Int32) * a1) + a2)) + a3)).toNatClampNeg r4) Q)))))) : wm_Ok 0 245 [.ref 89, .int a1, .int a2, .int a3] μ Q := wm_ent (nL := 5) (l := [.ref 89, .int a1, .int a2, .int a3, .null]) (by decide +kernel) (by decide +kernel) (by decide +kernel) rfl rfl (wm_vc mo_245 (rt := none) (by decide +kernel) mc_245 106 h)
-- WindBoatModel.laysRule(III)V, the place 39
set_option maxRecDepth 100000 in
set_option maxHeartbeats 8000000 in
theorem f_245_39 (x1 : Int32) (x2 : Int32) (x3 : Int32) (x4 : Int32) (μ : wm_M) (Q : Option Value → wm_M → Prop) (h : wm_OkI 0 188 [.ref 89, .int (2 : Int32)] μ (fun r2 μ1 => ((r2 = (0 : Int32) → (vp_in x4 1296 ∧ wm_Wp 0 245 67 [.null, .null, .null, .null, .null] (wm_si μ1 94 (x4).toNatClampNeg (39 : Int32)) Q)) ∧ (¬ r2 = (0 : Int32) → wm_OkI 0 241 [.ref 89, .int (1 : Int32), .int x3, .int x2, .int x1] μ1 (fun r4 μ3 => (vp_in x4 1296 ∧ wm_Wp 0 245 67 [.null, .null, .null, .null, .null] (wm_si μ3 94 (x4).toNatClampNeg r4) Q)))))) : wm_Wp 0 245 39 [.ref 89, .int x1, .int x2, .int x3, .int x4] μ Q := wm_vc mo_245 (rt := none) (by decide +kernel) mc_245 106 h
-- WindBoatModel.laysRule(III)V, the place 67
set_option maxRecDepth 100000 in
set_option maxHeartbeats 8000000 in
theorem f_245_67 (μ : wm_M) (Q : Option Value → wm_M → Prop) (h : Q none μ) : wm_Wp 0 245 67 [.null, .null, .null, .null, .null] μ Q := wm_vc mo_245 (rt := none) (by decide +kernel) mc_245 106 h
-- WindBoatModel.laysRules(I)V
set_option maxRecDepth 100000 in
set_option maxHeartbeats 8000000 in
theorem f_246 (a1 : Int32) (μ : wm_M) (Q : Option Value → wm_M → Prop) (h : wm_OkI 0 192 [.int a1] μ (fun r2 μ1 => wm_Wp 0 246 5 [.ref 89, .null, .int r2, .null, .null] μ1 Q)) : wm_Ok 0 246 [.ref 89, .int a1] μ Q := wm_ent (nL := 5) (l := [.ref 89, .int a1, .null, .null, .null]) (by decide +kernel) (by decide +kernel) (by decide +kernel) rfl rfl (wm_vc mo_246 (rt := none) (by decide +kernel) mc_246 80 h)
-- WindBoatModel.laysRules(I)V, the place 5
set_option maxRecDepth 100000 in
set_option maxHeartbeats 8000000 in
theorem f_246_5 (x2 : Int32) (μ : wm_M) (Q : Option Value → wm_M → Prop) (h : (((12 : Int32) ≤ x2 → wm_Wp 0 246 58 [.null, .null, .null, .null, .null] μ Q) ∧ (¬ (12 : Int32) ≤ x2 → wm_Wp 0 246 13 [.ref 89, .null, .int x2, .int (0 : Int32), .null] μ Q))) : wm_Wp 0 246 5 [.ref 89, .null, .int x2, .null, .null] μ Q := wm_vc mo_246 (rt := none) (by decide +kernel) mc_246 80 h
-- WindBoatModel.laysRules(I)V, the place 13
set_option maxRecDepth 100000 in
set_option maxHeartbeats 8000000 in
theorem f_246_13 (x2 : Int32) (x3 : Int32) (μ : wm_M) (Q : Option Value → wm_M → Prop) (h : (((36 : Int32) ≤ x3 → wm_Wp 0 246 52 [.ref 89, .null, .int x2, .null, .null] μ Q) ∧ (¬ (36 : Int32) ≤ x3 → wm_Wp 0 246 22 [.ref 89, .null, .int x2, .int x3, .int (0 : Int32)] μ Q))) : wm_Wp 0 246 13 [.ref 89, .null, .int x2, .int x3, .null] μ Q := wm_vc mo_246 (rt := none) (by decide +kernel) mc_246 80 h
-- WindBoatModel.laysRules(I)V, the place 22
set_option maxRecDepth 100000 in
set_option maxHeartbeats 8000000 in
theorem f_246_22 (x2 : Int32) (x3 : Int32) (x4 : Int32) (μ : wm_M) (Q : Option Value → wm_M → Prop) (h : wm_OkI 0 188 [.ref 89, .int (0 : Int32)] μ (fun r2 μ1 => ((r2 ≤ x4 → wm_Wp 0 246 46 [.ref 89, .null, .int x2, .int x3, .null] μ1 Q) ∧ (¬ r2 ≤ x4 → wm_Wp 0 246 32 [.ref 89, .null, .int x2, .int x3, .int x4] μ1 Q)))) : wm_Wp 0 246 22 [.ref 89, .null, .int x2, .int x3, .int x4] μ Q := wm_vc mo_246 (rt := none) (by decide +kernel) mc_246 80 h
-- WindBoatModel.laysRules(I)V, the place 32
set_option maxRecDepth 100000 in
set_option maxHeartbeats 8000000 in
theorem f_246_32 (x2 : Int32) (x3 : Int32) (x4 : Int32) (μ : wm_M) (Q : Option Value → wm_M → Prop) (h : wm_OkV 0 245 [.ref 89, .int x2, .int x3, .int x4] μ (fun μ1 => wm_Wp 0 246 40 [.ref 89, .null, .int x2, .int x3, .int x4] μ1 Q)) : wm_Wp 0 246 32 [.ref 89, .null, .int x2, .int x3, .int x4] μ Q := wm_vc mo_246 (rt := none) (by decide +kernel) mc_246 80 h
-- WindBoatModel.laysRules(I)V, the place 40
set_option maxRecDepth 100000 in
set_option maxHeartbeats 8000000 in
theorem f_246_40 (x2 : Int32) (x3 : Int32) (x4 : Int32) (μ : wm_M) (Q : Option Value → wm_M → Prop) (h : wm_Wp 0 246 22 [.ref 89, .null, .int x2, .int x3, .int (x4 + (1 : Int32))] μ Q) : wm_Wp 0 246 40 [.ref 89, .null, .int x2, .int x3, .int x4] μ Q := wm_vc mo_246 (rt := none) (by decide +kernel) mc_246 80 h
-- WindBoatModel.laysRules(I)V, the place 46
set_option maxRecDepth 100000 in
set_option maxHeartbeats 8000000 in
theorem f_246_46 (x2 : Int32) (x3 : Int32) (μ : wm_M) (Q : Option Value → wm_M → Prop) (h : wm_Wp 0 246 13 [.ref 89, .null, .int x2, .int (x3 + (1 : Int32)), .null] μ Q) : wm_Wp 0 246 46 [.ref 89, .null, .int x2, .int x3, .null] μ Q := wm_vc mo_246 (rt := none) (by decide +kernel) mc_246 80 h
-- WindBoatModel.laysRules(I)V, the place 52
set_option maxRecDepth 100000 in
set_option maxHeartbeats 8000000 in
theorem f_246_52 (x2 : Int32) (μ : wm_M) (Q : Option Value → wm_M → Prop) (h : wm_Wp 0 246 5 [.ref 89, .null, .int (x2 + (1 : Int32)), .null, .null] μ Q) : wm_Wp 0 246 52 [.ref 89, .null, .int x2, .null, .null] μ Q := wm_vc mo_246 (rt := none) (by decide +kernel) mc_246 80 h
-- WindBoatModel.laysRules(I)V, the place 58
set_option maxRecDepth 100000 in
set_option maxHeartbeats 8000000 in
theorem f_246_58 (μ : wm_M) (Q : Option Value → wm_M → Prop) (h : Q none μ) : wm_Wp 0 246 58 [.null, .null, .null, .null, .null] μ Q := wm_vc mo_246 (rt := none) (by decide +kernel) mc_246 80 h
-- WindBoatModel.beside(II)I
set_option maxRecDepth 100000 in
set_option maxHeartbeats 8000000 in
theorem f_247 (a0 : Int32) (a1 : Int32) (μ : wm_M) (Q : Option Value → wm_M → Prop) (h : (¬ (6 : Int32) = 0 ∧ ((a1 = (7 : Int32) → (¬ (6 : Int32) = 0 ∧ ((a1 ≤ (0 : Int32) → ((a1 ≤ (4 : Int32) → wm_OkI 0 184 [.int ((a0 / (6 : Int32)) + (-1 : Int32)), .int (0 : Int32), .int (5 : Int32)] μ (fun r2 μ1 => ((r2 = (0 : Int32) → wm_Wp 0 247 93 [.null, .null, .null, .null] μ1 Q) ∧ (¬ r2 = (0 : Int32) → wm_Wp 0 247 75 [.null, .null, .int ((a0 / (6 : Int32)) + (-1 : Int32)), .int ((a0 - a0 / (6 : Int32) * (6 : Int32)) + (0 : Int32))] μ1 Q)))) ∧ (¬ a1 ≤ (4 : Int32) → wm_OkI 0 184 [.int ((a0 / (6 : Int32)) + (-1 : Int32)), .int (0 : Int32), .int (5 : Int32)] μ (fun r4 μ3 => ((r4 = (0 : Int32) → wm_Wp 0 247 93 [.null, .null, .null, .null] μ3 Q) ∧ (¬ r4 = (0 : Int32) → wm_Wp 0 247 75 [.null, .null, .int ((a0 / (6 : Int32)) + (-1 : Int32)), .int ((a0 - a0 / (6 : Int32) * (6 : Int32)) + (-1 : Int32))] μ3 Q)))))) ∧ (¬ a1 ≤ (0 : Int32) → (((4 : Int32) ≤ a1 → ((a1 ≤ (4 : Int32) → wm_OkI 0 184 [.int ((a0 / (6 : Int32)) + (-1 : Int32)), .int (0 : Int32), .int (5 : Int32)] μ (fun r6 μ5 => ((r6 = (0 : Int32) → wm_Wp 0 247 93 [.null, .null, .null, .null] μ5 Q) ∧ (¬ r6 = (0 : Int32) → wm_Wp 0 247 75 [.null, .null, .int ((a0 / (6 : Int32)) + (-1 : Int32)), .int ((a0 - a0 / (6 : Int32) * (6 : Int32)) + (0 : Int32))] μ5 Q)))) ∧ (¬ a1 ≤ (4 : Int32) → wm_OkI 0 184 [.int ((a0 / (6 : Int32)) + (-1 : Int32)), .int (0 : Int32), .int (5 : Int32)] μ (fun r8 μ7 => ((r8 = (0 : Int32) → wm_Wp 0 247 93 [.null, .null, .null, .null] μ7 Q) ∧ (¬ r8 = (0 : Int32) → wm_Wp 0 247 75 [.null, .null, .int ((a0 / (6 : Int32)) + (-1 : Int32)), .int ((a0 - a0 / (6 : Int32) * (6 : Int32)) + (-1 : Int32))] μ7 Q)))))) ∧ (¬ (4 : Int32) ≤ a1 → wm_OkI 0 184 [.int ((a0 / (6 : Int32)) + (-1 : Int32)), .int (0 : Int32), .int (5 : Int32)] μ (fun r10 μ9 => ((r10 = (0 : Int32) → wm_Wp 0 247 93 [.null, .null, .null, .null] μ9 Q) ∧ (¬ r10 = (0 : Int32) → wm_Wp 0 247 75 [.null, .null, .int ((a0 / (6 : Int32)) + (-1 : Int32)), .int ((a0 - a0 / (6 : Int32) * (6 : Int32)) + (1 : Int32))] μ9 Q))))))))) ∧ (¬ a1 = (7 : Int32) → (((2 : Int32) ≤ a1 → ((a1 ≤ (2 : Int32) → (¬ (6 : Int32) = 0 ∧ ((a1 ≤ (0 : Int32) → ((a1 ≤ (4 : Int32) → wm_OkI 0 184 [.int ((a0 / (6 : Int32)) + (0 : Int32)), .int (0 : Int32), .int (5 : Int32)] μ (fun r12 μ11 => ((r12 = (0 : Int32) → wm_Wp 0 247 93 [.null, .null, .null, .null] μ11 Q) ∧ (¬ r12 = (0 : Int32) → wm_Wp 0 247 75 [.null, .null, .int ((a0 / (6 : Int32)) + (0 : Int32)), .int ((a0 - a0 / (6 : Int32) * (6 : Int32)) + (0 : Int32))] μ11 Q)))) ∧ (¬ a1 ≤ (4 : Int32) → wm_OkI 0 184 [.int ((a0 / (6 : Int32)) + (0 : Int32)), .int (0 : Int32), .int (5 : Int32)] μ (fun r14 μ13 => ((r14 = (0 : Int32) → wm_Wp 0 247 93 [.null, .null, .null, .null] μ13 Q) ∧ (¬ r14 = (0 : Int32) → wm_Wp 0 247 75 [.null, .null, .int ((a0 / (6 : Int32)) + (0 : Int32)), .int ((a0 - a0 / (6 : Int32) * (6 : Int32)) + (-1 : Int32))] μ13 Q)))))) ∧ (¬ a1 ≤ (0 : Int32) → (((4 : Int32) ≤ a1 → ((a1 ≤ (4 : Int32) → wm_OkI 0 184 [.int ((a0 / (6 : Int32)) + (0 : Int32)), .int (0 : Int32), .int (5 : Int32)] μ (fun r16 μ15 => ((r16 = (0 : Int32) → wm_Wp 0 247 93 [.null, .null, .null, .null] μ15 Q) ∧ (¬ r16 = (0 : Int32) → wm_Wp 0 247 75 [.null, .null, .int ((a0 / (6 : Int32)) + (0 : Int32)), .int ((a0 - a0 / (6 : Int32) * (6 : Int32)) + (0 : Int32))] μ15 Q)))) ∧ (¬ a1 ≤ (4 : Int32) → wm_OkI 0 184 [.int ((a0 / (6 : Int32)) + (0 : Int32)), .int (0 : Int32), .int (5 : Int32)] μ (fun r18 μ17 => ((r18 = (0 : Int32) → wm_Wp 0 247 93 [.null, .null, .null, .null] μ17 Q) ∧ (¬ r18 = (0 : Int32) → wm_Wp 0 247 75 [.null, .null, .int ((a0 / (6 : Int32)) + (0 : Int32)), .int ((a0 - a0 / (6 : Int32) * (6 : Int32)) + (-1 : Int32))] μ17 Q)))))) ∧ (¬ (4 : Int32) ≤ a1 → wm_OkI 0 184 [.int ((a0 / (6 : Int32)) + (0 : Int32)), .int (0 : Int32), .int (5 : Int32)] μ (fun r20 μ19 => ((r20 = (0 : Int32) → wm_Wp 0 247 93 [.null, .null, .null, .null] μ19 Q) ∧ (¬ r20 = (0 : Int32) → wm_Wp 0 247 75 [.null, .null, .int ((a0 / (6 : Int32)) + (0 : Int32)), .int ((a0 - a0 / (6 : Int32) * (6 : Int32)) + (1 : Int32))] μ19 Q))))))))) ∧ (¬ a1 ≤ (2 : Int32) → (((6 : Int32) ≤ a1 → (¬ (6 : Int32) = 0 ∧ ((a1 ≤ (0 : Int32) → ((a1 ≤ (4 : Int32) → wm_OkI 0 184 [.int ((a0 / (6 : Int32)) + (0 : Int32)), .int (0 : Int32), .int (5 : Int32)] μ (fun r22 μ21 => ((r22 = (0 : Int32) → wm_Wp 0 247 93 [.null, .null, .null, .null] μ21 Q) ∧ (¬ r22 = (0 : Int32) → wm_Wp 0 247 75 [.null, .null, .int ((a0 / (6 : Int32)) + (0 : Int32)), .int ((a0 - a0 / (6 : Int32) * (6 : Int32)) + (0 : Int32))] μ21 Q)))) ∧ (¬ a1 ≤ (4 : Int32) → wm_OkI 0 184 [.int ((a0 / (6 : Int32)) + (0 : Int32)), .int (0 : Int32), .int (5 : Int32)] μ (fun r24 μ23 => ((r24 = (0 : Int32) → wm_Wp 0 247 93 [.null, .null, .null, .null] μ23 Q) ∧ (¬ r24 = (0 : Int32) → wm_Wp 0 247 75 [.null, .null, .int ((a0 / (6 : Int32)) + (0 : Int32)), .int ((a0 - a0 / (6 : Int32) * (6 : Int32)) + (-1 : Int32))] μ23 Q)))))) ∧ (¬ a1 ≤ (0 : Int32) → (((4 : Int32) ≤ a1 → ((a1 ≤ (4 : Int32) → wm_OkI 0 184 [.int ((a0 / (6 : Int32)) + (0 : Int32)), .int (0 : Int32), .int (5 : Int32)] μ (fun r26 μ25 => ((r26 = (0 : Int32) → wm_Wp 0 247 93 [.null, .null, .null, .null] μ25 Q) ∧ (¬ r26 = (0 : Int32) → wm_Wp 0 247 75 [.null, .null, .int ((a0 / (6 : Int32)) + (0 : Int32)), .int ((a0 - a0 / (6 : Int32) * (6 : Int32)) + (0 : Int32))] μ25 Q)))) ∧ (¬ a1 ≤ (4 : Int32) → wm_OkI 0 184 [.int ((a0 / (6 : Int32)) + (0 : Int32)), .int (0 : Int32), .int (5 : Int32)] μ (fun r28 μ27 => ((r28 = (0 : Int32) → wm_Wp 0 247 93 [.null, .null, .null, .null] μ27 Q) ∧ (¬ r28 = (0 : Int32) → wm_Wp 0 247 75 [.null, .null, .int ((a0 / (6 : Int32)) + (0 : Int32)), .int ((a0 - a0 / (6 : Int32) * (6 : Int32)) + (-1 : Int32))] μ27 Q)))))) ∧ (¬ (4 : Int32) ≤ a1 → wm_OkI 0 184 [.int ((a0 / (6 : Int32)) + (0 : Int32)), .int (0 : Int32), .int (5 : Int32)] μ (fun r30 μ29 => ((r30 = (0 : Int32) → wm_Wp 0 247 93 [.null, .null, .null, .null] μ29 Q) ∧ (¬ r30 = (0 : Int32) → wm_Wp 0 247 75 [.null, .null, .int ((a0 / (6 : Int32)) + (0 : Int32)), .int ((a0 - a0 / (6 : Int32) * (6 : Int32)) + (1 : Int32))] μ29 Q))))))))) ∧ (¬ (6 : Int32) ≤ a1 → (¬ (6 : Int32) = 0 ∧ ((a1 ≤ (0 : Int32) → ((a1 ≤ (4 : Int32) → wm_OkI 0 184 [.int ((a0 / (6 : Int32)) + (1 : Int32)), .int (0 : Int32), .int (5 : Int32)] μ (fun r32 μ31 => ((r32 = (0 : Int32) → wm_Wp 0 247 93 [.null, .null, .null, .null] μ31 Q) ∧ (¬ r32 = (0 : Int32) → wm_Wp 0 247 75 [.null, .null, .int ((a0 / (6 : Int32)) + (1 : Int32)), .int ((a0 - a0 / (6 : Int32) * (6 : Int32)) + (0 : Int32))] μ31 Q)))) ∧ (¬ a1 ≤ (4 : Int32) → wm_OkI 0 184 [.int ((a0 / (6 : Int32)) + (1 : Int32)), .int (0 : Int32), .int (5 : Int32)] μ (fun r34 μ33 => ((r34 = (0 : Int32) → wm_Wp 0 247 93 [.null, .null, .null, .null] μ33 Q) ∧ (¬ r34 = (0 : Int32) → wm_Wp 0 247 75 [.null, .null, .int ((a0 / (6 : Int32)) + (1 : Int32)), .int ((a0 - a0 / (6 : Int32) * (6 : Int32)) + (-1 : Int32))] μ33 Q)))))) ∧ (¬ a1 ≤ (0 : Int32) → (((4 : Int32) ≤ a1 → ((a1 ≤ (4 : Int32) → wm_OkI 0 184 [.int ((a0 / (6 : Int32)) + (1 : Int32)), .int (0 : Int32), .int (5 : Int32)] μ (fun r36 μ35 => ((r36 = (0 : Int32) → wm_Wp 0 247 93 [.null, .null, .null, .null] μ35 Q) ∧ (¬ r36 = (0 : Int32) → wm_Wp 0 247 75 [.null, .null, .int ((a0 / (6 : Int32)) + (1 : Int32)), .int ((a0 - a0 / (6 : Int32) * (6 : Int32)) + (0 : Int32))] μ35 Q)))) ∧ (¬ a1 ≤ (4 : Int32) → wm_OkI 0 184 [.int ((a0 / (6 : Int32)) + (1 : Int32)), .int (0 : Int32), .int (5 : Int32)] μ (fun r38 μ37 => ((r38 = (0 : Int32) → wm_Wp 0 247 93 [.null, .null, .null, .null] μ37 Q) ∧ (¬ r38 = (0 : Int32) → wm_Wp 0 247 75 [.null, .null, .int ((a0 / (6 : Int32)) + (1 : Int32)), .int ((a0 - a0 / (6 : Int32) * (6 : Int32)) + (-1 : Int32))] μ37 Q)))))) ∧ (¬ (4 : Int32) ≤ a1 → wm_OkI 0 184 [.int ((a0 / (6 : Int32)) + (1 : Int32)), .int (0 : Int32), .int (5 : Int32)] μ (fun r40 μ39 => ((r40 = (0 : Int32) → wm_Wp 0 247 93 [.null, .null, .null, .null] μ39 Q) ∧ (¬ r40 = (0 : Int32) → wm_Wp 0 247 75 [.null, .null, .int ((a0 / (6 : Int32)) + (1 : Int32)), .int ((a0 - a0 / (6 : Int32) * (6 : Int32)) + (1 : Int32))] μ39 Q))))))))))))) ∧ (¬ (2 : Int32) ≤ a1 → (¬ (6 : Int32) = 0 ∧ ((a1 ≤ (0 : Int32) → ((a1 ≤ (4 : Int32) → wm_OkI 0 184 [.int ((a0 / (6 : Int32)) + (-1 : Int32)), .int (0 : Int32), .int (5 : Int32)] μ (fun r42 μ41 => ((r42 = (0 : Int32) → wm_Wp 0 247 93 [.null, .null, .null, .null] μ41 Q) ∧ (¬ r42 = (0 : Int32) → wm_Wp 0 247 75 [.null, .null, .int ((a0 / (6 : Int32)) + (-1 : Int32)), .int ((a0 - a0 / (6 : Int32) * (6 : Int32)) + (0 : Int32))] μ41 Q)))) ∧ (¬ a1 ≤ (4 : Int32) → wm_OkI 0 184 [.int ((a0 / (6 : Int32)) + (-1 : Int32)), .int (0 : Int32), .int (5 : Int32)] μ (fun r44 μ43 => ((r44 = (0 : Int32) → wm_Wp 0 247 93 [.null, .null, .null, .null] μ43 Q) ∧ (¬ r44 = (0 : Int32) → wm_Wp 0 247 75 [.null, .null, .int ((a0 / (6 : Int32)) + (-1 : Int32)), .int ((a0 - a0 / (6 : Int32) * (6 : Int32)) + (-1 : Int32))] μ43 Q)))))) ∧ (¬ a1 ≤ (0 : Int32) → (((4 : Int32) ≤ a1 → ((a1 ≤ (4 : Int32) → wm_OkI 0 184 [.int ((a0 / (6 : Int32)) + (-1 : Int32)), .int (0 : Int32), .int (5 : Int32)] μ (fun r46 μ45 => ((r46 = (0 : Int32) → wm_Wp 0 247 93 [.null, .null, .null, .null] μ45 Q) ∧ (¬ r46 = (0 : Int32) → wm_Wp 0 247 75 [.null, .null, .int ((a0 / (6 : Int32)) + (-1 : Int32)), .int ((a0 - a0 / (6 : Int32) * (6 : Int32)) + (0 : Int32))] μ45 Q)))) ∧ (¬ a1 ≤ (4 : Int32) → wm_OkI 0 184 [.int ((a0 / (6 : Int32)) + (-1 : Int32)), .int (0 : Int32), .int (5 : Int32)] μ (fun r48 μ47 => ((r48 = (0 : Int32) → wm_Wp 0 247 93 [.null, .null, .null, .null] μ47 Q) ∧ (¬ r48 = (0 : Int32) → wm_Wp 0 247 75 [.null, .null, .int ((a0 / (6 : Int32)) + (-1 : Int32)), .int ((a0 - a0 / (6 : Int32) * (6 : Int32)) + (-1 : Int32))] μ47 Q)))))) ∧ (¬ (4 : Int32) ≤ a1 → wm_OkI 0 184 [.int ((a0 / (6 : Int32)) + (-1 : Int32)), .int (0 : Int32), .int (5 : Int32)] μ (fun r50 μ49 => ((r50 = (0 : Int32) → wm_Wp 0 247 93 [.null, .null, .null, .null] μ49 Q) ∧ (¬ r50 = (0 : Int32) → wm_Wp 0 247 75 [.null, .null, .int ((a0 / (6 : Int32)) + (-1 : Int32)), .int ((a0 - a0 / (6 : Int32) * (6 : Int32)) + (1 : Int32))] μ49 Q)))))))))))))) : wm_Ok 0 247 [.int a0, .int a1] μ Q := wm_ent (nL := 4) (l := [.int a0, .int a1, .null, .null]) (by decide +kernel) (by decide +kernel) (by decide +kernel) rfl rfl (wm_vc mo_247 (rt := some .int) (by decide +kernel) mc_247 136 h)
-- WindBoatModel.beside(II)I, the place 75
set_option maxRecDepth 100000 in
set_option maxHeartbeats 8000000 in
theorem f_247_75 (x2 : Int32) (x3 : Int32) (μ : wm_M) (Q : Option Value → wm_M → Prop) (h : wm_OkI 0 184 [.int x3, .int (0 : Int32), .int (5 : Int32)] μ (fun r2 μ1 => ((r2 = (0 : Int32) → wm_Wp 0 247 93 [.null, .null, .null, .null] μ1 Q) ∧ (¬ r2 = (0 : Int32) → wm_Wp 0 247 84 [.null, .null, .int x2, .int x3] μ1 Q)))) : wm_Wp 0 247 75 [.null, .null, .int x2, .int x3] μ Q := wm_vc mo_247 (rt := some .int) (by decide +kernel) mc_247 136 h
-- WindBoatModel.beside(II)I, the place 84
set_option maxRecDepth 100000 in
set_option maxHeartbeats 8000000 in
theorem f_247_84 (x2 : Int32) (x3 : Int32) (μ : wm_M) (Q : Option Value → wm_M → Prop) (h : Q (some (.int (((6 : Int32) * x2) + x3))) μ) : wm_Wp 0 247 84 [.null, .null, .int x2, .int x3] μ Q := wm_vc mo_247 (rt := some .int) (by decide +kernel) mc_247 136 h
-- WindBoatModel.beside(II)I, the place 93
set_option maxRecDepth 100000 in
set_option maxHeartbeats 8000000 in
theorem f_247_93 (μ : wm_M) (Q : Option Value → wm_M → Prop) (h : Q (some (.int (-1 : Int32))) μ) : wm_Wp 0 247 93 [.null, .null, .null, .null] μ Q := wm_vc mo_247 (rt := some .int) (by decide +kernel) mc_247 136 h
-- WindBoatModel.eighths(II)I
set_option maxRecDepth 100000 in
set_option maxHeartbeats 8000000 in
theorem f_248 (a0 : Int32) (a1 : Int32) (μ : wm_M) (Q : Option Value → wm_M → Prop) (h : ((a0 ≤ a1 → wm_Wp 0 248 11 [.int a0, .int a1, .null] μ Q) ∧ (¬ a0 ≤ a1 → (((a0 - a1) ≤ (4 : Int32) → wm_Wp 0 248 27 [.null, .null, .int (a0 - a1)] μ Q) ∧ (¬ (a0 - a1) ≤ (4 : Int32) → Q (some (.int ((8 : Int32) - (a0 - a1)))) μ))))) : wm_Ok 0 248 [.int a0, .int a1] μ Q := wm_ent (nL := 3) (l := [.int a0, .int a1, .null]) (by decide +kernel) (by decide +kernel) (by decide +kernel) rfl rfl (wm_vc mo_248 (rt := some .int) (by decide +kernel) mc_248 60 h)
-- WindBoatModel.eighths(II)I, the place 11
set_option maxRecDepth 100000 in
set_option maxHeartbeats 8000000 in
theorem f_248_11 (x0 : Int32) (x1 : Int32) (μ : wm_M) (Q : Option Value → wm_M → Prop) (h : (((x1 - x0) ≤ (4 : Int32) → wm_Wp 0 248 27 [.null, .null, .int (x1 - x0)] μ Q) ∧ (¬ (x1 - x0) ≤ (4 : Int32) → Q (some (.int ((8 : Int32) - (x1 - x0)))) μ))) : wm_Wp 0 248 11 [.int x0, .int x1, .null] μ Q := wm_vc mo_248 (rt := some .int) (by decide +kernel) mc_248 60 h
-- WindBoatModel.eighths(II)I, the place 27
set_option maxRecDepth 100000 in
set_option maxHeartbeats 8000000 in
theorem f_248_27 (x2 : Int32) (μ : wm_M) (Q : Option Value → wm_M → Prop) (h : Q (some (.int x2)) μ) : wm_Wp 0 248 27 [.null, .null, .int x2] μ Q := wm_vc mo_248 (rt := some .int) (by decide +kernel) mc_248 60 h
-- WindBoatModel.stepTicks(IZII)I
set_option maxRecDepth 100000 in
set_option maxHeartbeats 8000000 in
theorem f_249 (a1 : Int32) (a2 : Int32) (a3 : Int32) (a4 : Int32) (μ : wm_M) (Q : Option Value → wm_M → Prop) (h : (¬ (3 : Int32) = 0 ∧ (¬ (3 : Int32) = 0 ∧ (¬ (8 : Int32) = 0 ∧ (¬ (24 : Int32) = 0 ∧ wm_Wp 0 249 19 [.ref 89, .int a1, .int a2, .null, .int a4, .int (a3 - a3 / (3 : Int32) * (3 : Int32)), .int ((a3 / (3 : Int32)) - (a3 / (3 : Int32)) / (8 : Int32) * (8 : Int32)), .int (a3 / (24 : Int32)), .null, .null, .null, .null, .null] μ Q))))) : wm_Ok 0 249 [.ref 89, .int a1, .int a2, .int a3, .int a4] μ Q := wm_ent (nL := 13) (l := [.ref 89, .int a1, .int a2, .int a3, .int a4, .null, .null, .null, .null, .null, .null, .null, .null]) (by decide +kernel) (by decide +kernel) (by decide +kernel) rfl rfl (wm_vc mo_249 (rt := some .int) (by decide +kernel) mc_249 260 h)
-- WindBoatModel.stepTicks(IZII)I, the place 19
set_option maxRecDepth 100000 in
set_option maxHeartbeats 8000000 in
theorem f_249_19 (x1 : Int32) (x2 : Int32) (x4 : Int32) (x5 : Int32) (x6 : Int32) (x7 : Int32) (μ : wm_M) (Q : Option Value → wm_M → Prop) (h : wm_OkI 0 247 [.int x7, .int x6] μ (fun r2 μ1 => wm_Wp 0 249 28 [.ref 89, .int x1, .int x2, .null, .int x4, .int x5, .int x6, .int x7, .int r2, .null, .null, .null, .null] μ1 Q)) : wm_Wp 0 249 19 [.ref 89, .int x1, .int x2, .null, .int x4, .int x5, .int x6, .int x7, .null, .null, .null, .null, .null] μ Q := wm_vc mo_249 (rt := some .int) (by decide +kernel) mc_249 260 h
-- WindBoatModel.stepTicks(IZII)I, the place 28
set_option maxRecDepth 100000 in
set_option maxHeartbeats 8000000 in
theorem f_249_28 (x1 : Int32) (x2 : Int32) (x4 : Int32) (x5 : Int32) (x6 : Int32) (x7 : Int32) (x8 : Int32) (μ : wm_M) (Q : Option Value → wm_M → Prop) (h : wm_OkI 0 213 [.ref 89, .int x5] μ (fun r2 μ1 => ((r2 = (0 : Int32) → wm_Wp 0 249 77 [.null, .null, .null, .null, .null, .null, .null, .null, .null, .null, .null, .null, .null] μ1 Q) ∧ (¬ r2 = (0 : Int32) → wm_Wp 0 249 37 [.ref 89, .int x1, .int x2, .null, .int x4, .int x5, .int x6, .int x7, .int x8, .null, .null, .null, .null] μ1 Q)))) : wm_Wp 0 249 28 [.ref 89, .int x1, .int x2, .null, .int x4, .int x5, .int x6, .int x7, .int x8, .null, .null, .null, .null] μ Q := wm_vc mo_249 (rt := some .int) (by decide +kernel) mc_249 260 h
-- WindBoatModel.stepTicks(IZII)I, the place 37
set_option maxRecDepth 100000 in
set_option maxHeartbeats 8000000 in
theorem f_249_37 (x1 : Int32) (x2 : Int32) (x4 : Int32) (x5 : Int32) (x6 : Int32) (x7 : Int32) (x8 : Int32) (μ : wm_M) (Q : Option Value → wm_M → Prop) (h : ((x8 = (-1 : Int32) → wm_Wp 0 249 77 [.null, .null, .null, .null, .null, .null, .null, .null, .null, .null, .null, .null, .null] μ Q) ∧ (¬ x8 = (-1 : Int32) → (vp_in ((0 : Int32) + x8) 2060 ∧ (((μ.1 91 (((0 : Int32) + x8)).toNatClampNeg) = (1 : Int32) → wm_Wp 0 249 77 [.null, .null, .null, .null, .null, .null, .null, .null, .null, .null, .null, .null, .null] μ Q) ∧ (¬ (μ.1 91 (((0 : Int32) + x8)).toNatClampNeg) = (1 : Int32) → (vp_in (((3 : Int32) * (((36 : Int32) * x4) + x8)) + x5) 1296 ∧ (((μ.1 93 ((((3 : Int32) * (((36 : Int32) * x4) + x8)) + x5)).toNatClampNeg) = (0 : Int32) → wm_Wp 0 249 79 [.ref 89, .int x1, .int x2, .null, .int x4, .int x5, .int x6, .int x7, .null, .null, .null, .null, .null] μ Q) ∧ (¬ (μ.1 93 ((((3 : Int32) * (((36 : Int32) * x4) + x8)) + x5)).toNatClampNeg) = (0 : Int32) → wm_Wp 0 249 77 [.null, .null, .null, .null, .null, .null, .null, .null, .null, .null, .null, .null, .null] μ Q))))))))) : wm_Wp 0 249 37 [.ref 89, .int x1, .int x2, .null, .int x4, .int x5, .int x6, .int x7, .int x8, .null, .null, .null, .null] μ Q := wm_vc mo_249 (rt := some .int) (by decide +kernel) mc_249 260 h
-- WindBoatModel.stepTicks(IZII)I, the place 77
set_option maxRecDepth 100000 in
set_option maxHeartbeats 8000000 in
theorem f_249_77 (μ : wm_M) (Q : Option Value → wm_M → Prop) (h : Q (some (.int (0 : Int32))) μ) : wm_Wp 0 249 77 [.null, .null, .null, .null, .null, .null, .null, .null, .null, .null, .null, .null, .null] μ Q := wm_vc mo_249 (rt := some .int) (by decide +kernel) mc_249 260 h
-- WindBoatModel.stepTicks(IZII)I, the place 79
set_option maxRecDepth 100000 in
set_option maxHeartbeats 8000000 in
theorem f_249_79 (x1 : Int32) (x2 : Int32) (x4 : Int32) (x5 : Int32) (x6 : Int32) (x7 : Int32) (μ : wm_M) (Q : Option Value → wm_M → Prop) (h : wm_OkI 0 200 [.ref 89, .int x1, .int x4, .int x7] μ (fun r2 μ1 => wm_Wp 0 249 90 [.ref 89, .int x1, .int x2, .null, .int x4, .int x5, .int x6, .int x7, .null, .int r2, .null, .null, .null] μ1 Q)) : wm_Wp 0 249 79 [.ref 89, .int x1, .int x2, .null, .int x4, .int x5, .int x6, .int x7, .null, .null, .null, .null, .null] μ Q := wm_vc mo_249 (rt := some .int) (by decide +kernel) mc_249 260 h
-- WindBoatModel.stepTicks(IZII)I, the place 90
set_option maxRecDepth 100000 in
set_option maxHeartbeats 8000000 in
theorem f_249_90 (x1 : Int32) (x2 : Int32) (x4 : Int32) (x5 : Int32) (x6 : Int32) (x7 : Int32) (x9 : Int32) (μ : wm_M) (Q : Option Value → wm_M → Prop) (h : wm_OkI 0 212 [.ref 89, .int x5] μ (fun r2 μ1 => ((r2 < x9 → wm_Wp 0 249 124 [.null, .null, .null, .null, .null, .null, .null, .null, .null, .null, .null, .null, .null] μ1 Q) ∧ (¬ r2 < x9 → wm_Wp 0 249 101 [.ref 89, .int x1, .int x2, .null, .int x4, .int x5, .int x6, .int x7, .null, .int x9, .null, .null, .null] μ1 Q)))) : wm_Wp 0 249 90 [.ref 89, .int x1, .int x2, .null, .int x4, .int x5, .int x6, .int x7, .null, .int x9, .null, .null, .null] μ Q := wm_vc mo_249 (rt := some .int) (by decide +kernel) mc_249 260 h
-- WindBoatModel.stepTicks(IZII)I, the place 101
set_option maxRecDepth 100000 in
set_option maxHeartbeats 8000000 in
theorem f_249_101 (x1 : Int32) (x2 : Int32) (x4 : Int32) (x5 : Int32) (x6 : Int32) (x7 : Int32) (x9 : Int32) (μ : wm_M) (Q : Option Value → wm_M → Prop) (h : (vp_in (((3 : Int32) * (((36 : Int32) * x4) + x7)) + x5) 1296 ∧ ((x9 ≤ (μ.1 94 ((((3 : Int32) * (((36 : Int32) * x4) + x7)) + x5)).toNatClampNeg) → wm_Wp 0 249 126 [.ref 89, .int x1, .int x2, .null, .int x4, .int x5, .int x6, .null, .null, .int x9, .null, .null, .null] μ Q) ∧ (¬ x9 ≤ (μ.1 94 ((((3 : Int32) * (((36 : Int32) * x4) + x7)) + x5)).toNatClampNeg) → wm_Wp 0 249 124 [.null, .null, .null, .null, .null, .null, .null, .null, .null, .null, .null, .null, .null] μ Q)))) : wm_Wp 0 249 101 [.ref 89, .int x1, .int x2, .null, .int x4, .int x5, .int x6, .int x7, .null, .int x9, .null, .null, .null] μ Q := wm_vc mo_249 (rt := some .int) (by decide +kernel) mc_249 260 h
-- WindBoatModel.stepTicks(IZII)I, the place 124
set_option maxRecDepth 100000 in
set_option maxHeartbeats 8000000 in
theorem f_249_124 (μ : wm_M) (Q : Option Value → wm_M → Prop) (h : Q (some (.int (0 : Int32))) μ) : wm_Wp 0 249 124 [.null, .null, .null, .null, .null, .null, .null, .null, .null, .null, .null, .null, .null] μ Q := wm_vc mo_249 (rt := some .int) (by decide +kernel) mc_249 260 h
-- WindBoatModel.stepTicks(IZII)I, the place 126
set_option maxRecDepth 100000 in
set_option maxHeartbeats 8000000 in
theorem f_249_126 (x1 : Int32) (x2 : Int32) (x4 : Int32) (x5 : Int32) (x6 : Int32) (x9 : Int32) (μ : wm_M) (Q : Option Value → wm_M → Prop) (h : wm_OkI 0 198 [.ref 89, .int x1, .int x4] μ (fun r2 μ1 => wm_OkI 0 248 [.int x6, .int r2] μ1 (fun r4 μ3 => wm_Wp 0 249 140 [.ref 89, .null, .int x2, .null, .null, .int x5, .int x6, .null, .null, .int x9, .int r4, .null, .null] μ3 Q))) : wm_Wp 0 249 126 [.ref 89, .int x1, .int x2, .null, .int x4, .int x5, .int x6, .null, .null, .int x9, .null, .null, .null] μ Q := wm_vc mo_249 (rt := some .int) (by decide +kernel) mc_249 260 h
-- WindBoatModel.stepTicks(IZII)I, the place 140
set_option maxRecDepth 100000 in
set_option maxHeartbeats 8000000 in
theorem f_249_140 (x2 : Int32) (x5 : Int32) (x6 : Int32) (x9 : Int32) (x10 : Int32) (μ : wm_M) (Q : Option Value → wm_M → Prop) (h : (vp_in ((449 : Int32) + x5) 2060 ∧ (¬ (8 : Int32) = 0 ∧ wm_OkI 0 206 [.ref 89, .int x2, .int x10, .int (x9 / (8 : Int32))] μ (fun r2 μ1 => wm_OkI 0 209 [.int (μ.1 91 (((449 : Int32) + x5)).toNatClampNeg), .int x10, .int r2] μ1 (fun r4 μ3 => wm_Wp 0 249 170 [.null, .null, .null, .null, .null, .null, .int x6, .null, .null, .null, .null, .int r4, .null] μ3 Q))))) : wm_Wp 0 249 140 [.ref 89, .null, .int x2, .null, .null, .int x5, .int x6, .null, .null, .int x9, .int x10, .null, .null] μ Q := wm_vc mo_249 (rt := some .int) (by decide +kernel) mc_249 260 h
-- WindBoatModel.stepTicks(IZII)I, the place 170
set_option maxRecDepth 100000 in
set_option maxHeartbeats 8000000 in
theorem f_249_170 (x6 : Int32) (x11 : Int32) (μ : wm_M) (Q : Option Value → wm_M → Prop) (h : (((0 : Int32) < x11 → wm_Wp 0 249 177 [.null, .null, .null, .null, .null, .null, .int x6, .null, .null, .null, .null, .int x11, .null] μ Q) ∧ (¬ (0 : Int32) < x11 → Q (some (.int (0 : Int32))) μ))) : wm_Wp 0 249 170 [.null, .null, .null, .null, .null, .null, .int x6, .null, .null, .null, .null, .int x11, .null] μ Q := wm_vc mo_249 (rt := some .int) (by decide +kernel) mc_249 260 h
-- WindBoatModel.stepTicks(IZII)I, the place 177
set_option maxRecDepth 100000 in
set_option maxHeartbeats 8000000 in
theorem f_249_177 (x6 : Int32) (x11 : Int32) (μ : wm_M) (Q : Option Value → wm_M → Prop) (h : (¬ (2 : Int32) = 0 ∧ (((x6 - x6 / (2 : Int32) * (2 : Int32)) = (0 : Int32) → (¬ x11 = 0 ∧ Q (some (.int (((((10 : Int32) * (10 : Int32)) + x11) - (1 : Int32)) / x11))) μ)) ∧ (¬ (x6 - x6 / (2 : Int32) * (2 : Int32)) = (0 : Int32) → wm_Wp 0 249 189 [.null, .null, .null, .null, .null, .null, .null, .null, .null, .null, .null, .int x11, .null] μ Q)))) : wm_Wp 0 249 177 [.null, .null, .null, .null, .null, .null, .int x6, .null, .null, .null, .null, .int x11, .null] μ Q := wm_vc mo_249 (rt := some .int) (by decide +kernel) mc_249 260 h
-- WindBoatModel.stepTicks(IZII)I, the place 189
set_option maxRecDepth 100000 in
set_option maxHeartbeats 8000000 in
theorem f_249_189 (x11 : Int32) (μ : wm_M) (Q : Option Value → wm_M → Prop) (h : (¬ x11 = 0 ∧ Q (some (.int (((((10 : Int32) * (14 : Int32)) + x11) - (1 : Int32)) / x11))) μ)) : wm_Wp 0 249 189 [.null, .null, .null, .null, .null, .null, .null, .null, .null, .null, .null, .int x11, .null] μ Q := wm_vc mo_249 (rt := some .int) (by decide +kernel) mc_249 260 h
-- WindBoatModel.laysSteps(IZI)V
set_option maxRecDepth 100000 in
set_option maxHeartbeats 8000000 in
theorem f_250 (a1 : Int32) (a2 : Int32) (a3 : Int32) (μ : wm_M) (Q : Option Value → wm_M → Prop) (h : wm_OkI 0 192 [.int a3] μ (fun r2 μ1 => wm_Wp 0 250 6 [.ref 89, .int a1, .int a2, .null, .int r2, .null] μ1 Q)) : wm_Ok 0 250 [.ref 89, .int a1, .int a2, .int a3] μ Q := wm_ent (nL := 6) (l := [.ref 89, .int a1, .int a2, .int a3, .null, .null]) (by decide +kernel) (by decide +kernel) (by decide +kernel) rfl rfl (wm_vc mo_250 (rt := none) (by decide +kernel) mc_250 80 h)
-- WindBoatModel.laysSteps(IZI)V, the place 6
set_option maxRecDepth 100000 in
set_option maxHeartbeats 8000000 in
theorem f_250_6 (x1 : Int32) (x2 : Int32) (x4 : Int32) (μ : wm_M) (Q : Option Value → wm_M → Prop) (h : (((12 : Int32) ≤ x4 → wm_Wp 0 250 60 [.null, .null, .null, .null, .null, .null] μ Q) ∧ (¬ (12 : Int32) ≤ x4 → wm_Wp 0 250 16 [.ref 89, .int x1, .int x2, .null, .int x4, .int (0 : Int32)] μ Q))) : wm_Wp 0 250 6 [.ref 89, .int x1, .int x2, .null, .int x4, .null] μ Q := wm_vc mo_250 (rt := none) (by decide +kernel) mc_250 80 h
-- WindBoatModel.laysSteps(IZI)V, the place 16
set_option maxRecDepth 100000 in
set_option maxHeartbeats 8000000 in
theorem f_250_16 (x1 : Int32) (x2 : Int32) (x4 : Int32) (x5 : Int32) (μ : wm_M) (Q : Option Value → wm_M → Prop) (h : (((864 : Int32) ≤ x5 → wm_Wp 0 250 54 [.ref 89, .int x1, .int x2, .null, .int x4, .null] μ Q) ∧ (¬ (864 : Int32) ≤ x5 → wm_OkI 0 249 [.ref 89, .int x1, .int x2, .int x5, .int x4] μ (fun r2 μ1 => (vp_in (((864 : Int32) * x4) + x5) 10368 ∧ wm_Wp 0 250 48 [.ref 89, .int x1, .int x2, .null, .int x4, .int x5] (wm_si μ1 95 ((((864 : Int32) * x4) + x5)).toNatClampNeg r2) Q))))) : wm_Wp 0 250 16 [.ref 89, .int x1, .int x2, .null, .int x4, .int x5] μ Q := wm_vc mo_250 (rt := none) (by decide +kernel) mc_250 80 h
-- WindBoatModel.laysSteps(IZI)V, the place 48
set_option maxRecDepth 100000 in
set_option maxHeartbeats 8000000 in
theorem f_250_48 (x1 : Int32) (x2 : Int32) (x4 : Int32) (x5 : Int32) (μ : wm_M) (Q : Option Value → wm_M → Prop) (h : wm_Wp 0 250 16 [.ref 89, .int x1, .int x2, .null, .int x4, .int (x5 + (1 : Int32))] μ Q) : wm_Wp 0 250 48 [.ref 89, .int x1, .int x2, .null, .int x4, .int x5] μ Q := wm_vc mo_250 (rt := none) (by decide +kernel) mc_250 80 h
-- WindBoatModel.laysSteps(IZI)V, the place 54
set_option maxRecDepth 100000 in
set_option maxHeartbeats 8000000 in
theorem f_250_54 (x1 : Int32) (x2 : Int32) (x4 : Int32) (μ : wm_M) (Q : Option Value → wm_M → Prop) (h : wm_Wp 0 250 6 [.ref 89, .int x1, .int x2, .null, .int (x4 + (1 : Int32)), .null] μ Q) : wm_Wp 0 250 54 [.ref 89, .int x1, .int x2, .null, .int x4, .null] μ Q := wm_vc mo_250 (rt := none) (by decide +kernel) mc_250 80 h
-- WindBoatModel.laysSteps(IZI)V, the place 60
set_option maxRecDepth 100000 in
set_option maxHeartbeats 8000000 in
theorem f_250_60 (μ : wm_M) (Q : Option Value → wm_M → Prop) (h : Q none μ) : wm_Wp 0 250 60 [.null, .null, .null, .null, .null, .null] μ Q := wm_vc mo_250 (rt := none) (by decide +kernel) mc_250 80 h
-- WindBoatModel.betters(II)V
set_option maxRecDepth 100000 in
set_option maxHeartbeats 8000000 in
theorem f_251 (a1 : Int32) (a2 : Int32) (μ : wm_M) (Q : Option Value → wm_M → Prop) (h : (((120 : Int32) < a2 → wm_Wp 0 251 33 [.null, .null, .null] μ Q) ∧ (¬ (120 : Int32) < a2 → (vp_in a1 864 ∧ (((μ.1 96 (a1).toNatClampNeg) = (-1 : Int32) → wm_Wp 0 251 26 [.ref 89, .int a1, .int a2] μ Q) ∧ (¬ (μ.1 96 (a1).toNatClampNeg) = (-1 : Int32) → (vp_in a1 864 ∧ (((μ.1 96 (a1).toNatClampNeg) ≤ a2 → wm_Wp 0 251 33 [.null, .null, .null] μ Q) ∧ (¬ (μ.1 96 (a1).toNatClampNeg) ≤ a2 → wm_Wp 0 251 26 [.ref 89, .int a1, .int a2] μ Q))))))))) : wm_Ok 0 251 [.ref 89, .int a1, .int a2] μ Q := wm_ent (nL := 3) (l := [.ref 89, .int a1, .int a2]) (by decide +kernel) (by decide +kernel) (by decide +kernel) rfl rfl (wm_vc mo_251 (rt := none) (by decide +kernel) mc_251 62 h)
-- WindBoatModel.betters(II)V, the place 26
set_option maxRecDepth 100000 in
set_option maxHeartbeats 8000000 in
theorem f_251_26 (x1 : Int32) (x2 : Int32) (μ : wm_M) (Q : Option Value → wm_M → Prop) (h : (vp_in x1 864 ∧ wm_Wp 0 251 33 [.null, .null, .null] (wm_si μ 96 (x1).toNatClampNeg x2) Q)) : wm_Wp 0 251 26 [.ref 89, .int x1, .int x2] μ Q := wm_vc mo_251 (rt := none) (by decide +kernel) mc_251 62 h
-- WindBoatModel.betters(II)V, the place 33
set_option maxRecDepth 100000 in
set_option maxHeartbeats 8000000 in
theorem f_251_33 (μ : wm_M) (Q : Option Value → wm_M → Prop) (h : Q none μ) : wm_Wp 0 251 33 [.null, .null, .null] μ Q := wm_vc mo_251 (rt := none) (by decide +kernel) mc_251 62 h
-- WindBoatModel.works(III)V
set_option maxRecDepth 100000 in
set_option maxHeartbeats 8000000 in
theorem f_252 (a1 : Int32) (a2 : Int32) (a3 : Int32) (μ : wm_M) (Q : Option Value → wm_M → Prop) (h : wm_Wp 0 252 3 [.ref 89, .int a1, .int a2, .int a3, .int (0 : Int32), .null] μ Q) : wm_Ok 0 252 [.ref 89, .int a1, .int a2, .int a3] μ Q := wm_ent (nL := 6) (l := [.ref 89, .int a1, .int a2, .int a3, .null, .null]) (by decide +kernel) (by decide +kernel) (by decide +kernel) rfl rfl (wm_vc mo_252 (rt := none) (by decide +kernel) mc_252 146 h)
-- WindBoatModel.works(III)V, the place 3
set_option maxRecDepth 100000 in
set_option maxHeartbeats 8000000 in
theorem f_252_3 (x1 : Int32) (x2 : Int32) (x3 : Int32) (x4 : Int32) (μ : wm_M) (Q : Option Value → wm_M → Prop) (h : (((864 : Int32) ≤ x4 → wm_Wp 0 252 25 [.ref 89, .int x1, .int x2, .int x3, .null, .null] μ Q) ∧ (¬ (864 : Int32) ≤ x4 → (vp_in x4 864 ∧ wm_Wp 0 252 19 [.ref 89, .int x1, .int x2, .int x3, .int x4, .null] (wm_si μ 96 (x4).toNatClampNeg (-1 : Int32)) Q)))) : wm_Wp 0 252 3 [.ref 89, .int x1, .int x2, .int x3, .int x4, .null] μ Q := wm_vc mo_252 (rt := none) (by decide +kernel) mc_252 146 h
-- WindBoatModel.works(III)V, the place 19
set_option maxRecDepth 100000 in
set_option maxHeartbeats 8000000 in
theorem f_252_19 (x1 : Int32) (x2 : Int32) (x3 : Int32) (x4 : Int32) (μ : wm_M) (Q : Option Value → wm_M → Prop) (h : wm_Wp 0 252 3 [.ref 89, .int x1, .int x2, .int x3, .int (x4 + (1 : Int32)), .null] μ Q) : wm_Wp 0 252 19 [.ref 89, .int x1, .int x2, .int x3, .int x4, .null] μ Q := wm_vc mo_252 (rt := none) (by decide +kernel) mc_252 146 h
-- WindBoatModel.works(III)V, the place 25
set_option maxRecDepth 100000 in
set_option maxHeartbeats 8000000 in
theorem f_252_25 (x1 : Int32) (x2 : Int32) (x3 : Int32) (μ : wm_M) (Q : Option Value → wm_M → Prop) (h : (vp_in x2 864 ∧ wm_Wp 0 252 32 [.ref 89, .int x1, .int x2, .int x3, .null, .null] (wm_si μ 96 (x2).toNatClampNeg x3) Q)) : wm_Wp 0 252 25 [.ref 89, .int x1, .int x2, .int x3, .null, .null] μ Q := wm_vc mo_252 (rt := none) (by decide +kernel) mc_252 146 h
-- WindBoatModel.works(III)V, the place 32
set_option maxRecDepth 100000 in
set_option maxHeartbeats 8000000 in
theorem f_252_32 (x1 : Int32) (x2 : Int32) (x3 : Int32) (μ : wm_M) (Q : Option Value → wm_M → Prop) (h : wm_Wp 0 252 37 [.ref 89, .int x1, .null, .int x3, .null, .null] (wm_si μ 89 25 x2) Q) : wm_Wp 0 252 32 [.ref 89, .int x1, .int x2, .int x3, .null, .null] μ Q := wm_vc mo_252 (rt := none) (by decide +kernel) mc_252 146 h
-- WindBoatModel.works(III)V, the place 37
set_option maxRecDepth 100000 in
set_option maxHeartbeats 8000000 in
theorem f_252_37 (x1 : Int32) (x3 : Int32) (μ : wm_M) (Q : Option Value → wm_M → Prop) (h : wm_Wp 0 252 40 [.ref 89, .int x1, .null, .null, .int x3, .null] μ Q) : wm_Wp 0 252 37 [.ref 89, .int x1, .null, .int x3, .null, .null] μ Q := wm_vc mo_252 (rt := none) (by decide +kernel) mc_252 146 h
-- WindBoatModel.works(III)V, the place 40
set_option maxRecDepth 100000 in
set_option maxHeartbeats 8000000 in
theorem f_252_40 (x1 : Int32) (x4 : Int32) (μ : wm_M) (Q : Option Value → wm_M → Prop) (h : (((120 : Int32) ≤ x4 → wm_Wp 0 252 125 [.null, .null, .null, .null, .null, .null] μ Q) ∧ (¬ (120 : Int32) ≤ x4 → wm_Wp 0 252 50 [.ref 89, .int x1, .null, .null, .int x4, .int (0 : Int32)] μ Q))) : wm_Wp 0 252 40 [.ref 89, .int x1, .null, .null, .int x4, .null] μ Q := wm_vc mo_252 (rt := none) (by decide +kernel) mc_252 146 h
-- WindBoatModel.works(III)V, the place 50
set_option maxRecDepth 100000 in
set_option maxHeartbeats 8000000 in
theorem f_252_50 (x1 : Int32) (x4 : Int32) (x5 : Int32) (μ : wm_M) (Q : Option Value → wm_M → Prop) (h : (((864 : Int32) ≤ x5 → wm_Wp 0 252 119 [.ref 89, .int x1, .null, .null, .int x4, .null] μ Q) ∧ (¬ (864 : Int32) ≤ x5 → (vp_in x5 864 ∧ (((μ.1 96 (x5).toNatClampNeg) = (-1 : Int32) → wm_Wp 0 252 113 [.ref 89, .int x1, .null, .null, .int x4, .int x5] μ Q) ∧ (¬ (μ.1 96 (x5).toNatClampNeg) = (-1 : Int32) → (vp_in x5 864 ∧ ((x4 < (μ.1 96 (x5).toNatClampNeg) → wm_Wp 0 252 113 [.ref 89, .int x1, .null, .null, .int x4, .int x5] μ Q) ∧ (¬ x4 < (μ.1 96 (x5).toNatClampNeg) → wm_Wp 0 252 81 [.ref 89, .int x1, .null, .null, .int x4, .int x5] μ Q))))))))) : wm_Wp 0 252 50 [.ref 89, .int x1, .null, .null, .int x4, .int x5] μ Q := wm_vc mo_252 (rt := none) (by decide +kernel) mc_252 146 h
-- WindBoatModel.works(III)V, the place 81
set_option maxRecDepth 100000 in
set_option maxHeartbeats 8000000 in
theorem f_252_81 (x1 : Int32) (x4 : Int32) (x5 : Int32) (μ : wm_M) (Q : Option Value → wm_M → Prop) (h : (vp_in x5 864 ∧ ((x4 ≤ (μ.1 96 (x5).toNatClampNeg) → wm_Wp 0 252 104 [.ref 89, .int x1, .null, .null, .int x4, .int x5] μ Q) ∧ (¬ x4 ≤ (μ.1 96 (x5).toNatClampNeg) → (¬ (10 : Int32) = 0 ∧ (((x4 - x4 / (10 : Int32) * (10 : Int32)) = (0 : Int32) → wm_Wp 0 252 104 [.ref 89, .int x1, .null, .null, .int x4, .int x5] μ Q) ∧ (¬ (x4 - x4 / (10 : Int32) * (10 : Int32)) = (0 : Int32) → wm_Wp 0 252 113 [.ref 89, .int x1, .null, .null, .int x4, .int x5] μ Q))))))) : wm_Wp 0 252 81 [.ref 89, .int x1, .null, .null, .int x4, .int x5] μ Q := wm_vc mo_252 (rt := none) (by decide +kernel) mc_252 146 h
-- WindBoatModel.works(III)V, the place 104
set_option maxRecDepth 100000 in
set_option maxHeartbeats 8000000 in
theorem f_252_104 (x1 : Int32) (x4 : Int32) (x5 : Int32) (μ : wm_M) (Q : Option Value → wm_M → Prop) (h : wm_OkV 0 253 [.ref 89, .int x1, .int x5, .int x4] μ (fun μ1 => wm_Wp 0 252 113 [.ref 89, .int x1, .null, .null, .int x4, .int x5] μ1 Q)) : wm_Wp 0 252 104 [.ref 89, .int x1, .null, .null, .int x4, .int x5] μ Q := wm_vc mo_252 (rt := none) (by decide +kernel) mc_252 146 h
-- WindBoatModel.works(III)V, the place 113
set_option maxRecDepth 100000 in
set_option maxHeartbeats 8000000 in
theorem f_252_113 (x1 : Int32) (x4 : Int32) (x5 : Int32) (μ : wm_M) (Q : Option Value → wm_M → Prop) (h : wm_Wp 0 252 50 [.ref 89, .int x1, .null, .null, .int x4, .int (x5 + (1 : Int32))] μ Q) : wm_Wp 0 252 113 [.ref 89, .int x1, .null, .null, .int x4, .int x5] μ Q := wm_vc mo_252 (rt := none) (by decide +kernel) mc_252 146 h
-- WindBoatModel.works(III)V, the place 119
set_option maxRecDepth 100000 in
set_option maxHeartbeats 8000000 in
theorem f_252_119 (x1 : Int32) (x4 : Int32) (μ : wm_M) (Q : Option Value → wm_M → Prop) (h : wm_Wp 0 252 40 [.ref 89, .int x1, .null, .null, .int (x4 + (1 : Int32)), .null] μ Q) : wm_Wp 0 252 119 [.ref 89, .int x1, .null, .null, .int x4, .null] μ Q := wm_vc mo_252 (rt := none) (by decide +kernel) mc_252 146 h
-- WindBoatModel.works(III)V, the place 125
set_option maxRecDepth 100000 in
set_option maxHeartbeats 8000000 in
theorem f_252_125 (μ : wm_M) (Q : Option Value → wm_M → Prop) (h : Q none μ) : wm_Wp 0 252 125 [.null, .null, .null, .null, .null, .null] μ Q := wm_vc mo_252 (rt := none) (by decide +kernel) mc_252 146 h
