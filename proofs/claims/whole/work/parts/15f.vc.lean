/-! ===== what each method and each joint asks, out of its blocks (printed by wip/gen/genvc.py) ===== -/
-- WindBoatModel.go(I)I
set_option maxRecDepth 100000 in
theorem v_295 (a1 : Int32) (μ : wm_M) (Q : Option Value → wm_M → Prop) (h : wm_OkI 0 188 [.ref 89, .int (6 : Int32)] μ (fun r2 μ1 => ((r2 = (0 : Int32) → wm_OkI 0 185 [.ref 89, .int (-2 : Int32)] μ1 (fun r4 μ3 => Q (some (.int r4)) μ3)) ∧ (¬ r2 = (0 : Int32) → wm_Wp 0 295 16 [.ref 89, .int a1, .null, .null, .null, .null, .null] μ1 Q)))) : wm_Ok 0 295 [.ref 89, .int a1] μ Q := f_295 a1 μ Q (wm_OkI.mono h (fun r2 μ1 h2 => ⟨fun c1 => (f_295_9  μ1 Q (h2.1 c1)), fun c1 => (h2.2 c1)⟩))
-- .. at 16
set_option maxRecDepth 100000 in
theorem w_295_16 (x1 : Int32) (μ : wm_M) (Q : Option Value → wm_M → Prop) (h : wm_OkI 0 184 [.int x1, .int (0 : Int32), .int (7 : Int32)] μ (fun r2 μ1 => ((r2 = (0 : Int32) → wm_OkI 0 185 [.ref 89, .int (-3 : Int32)] μ1 (fun r4 μ3 => Q (some (.int r4)) μ3)) ∧ (¬ r2 = (0 : Int32) → wm_Wp 0 295 33 [.ref 89, .int x1, .null, .null, .null, .null, .null] μ1 Q)))) : wm_Wp 0 295 16 [.ref 89, .int x1, .null, .null, .null, .null, .null] μ Q := f_295_16 x1 μ Q (wm_OkI.mono h (fun r2 μ1 h2 => ⟨fun c1 => (f_295_26  μ1 Q (h2.1 c1)), fun c1 => (h2.2 c1)⟩))
-- .. at 33
set_option maxRecDepth 100000 in
theorem w_295_33 (x1 : Int32) (μ : wm_M) (Q : Option Value → wm_M → Prop) (h : wm_OkI 0 188 [.ref 89, .int (8 : Int32)] μ (fun r2 μ1 => wm_OkI 0 248 [.int r2, .int x1] μ1 (fun r4 μ3 => wm_OkI 0 188 [.ref 89, .int (10 : Int32)] μ3 (fun r6 μ5 => wm_OkI 0 188 [.ref 89, .int (9 : Int32)] μ5 (fun r8 μ7 => wm_OkI 0 213 [.ref 89, .int r8] μ7 (fun r10 μ9 => ((r10 = (0 : Int32) → wm_Wp 0 295 76 [.ref 89, .int x1, .int r4, .int (r6 + r4), .null, .null, .null] μ9 Q) ∧ (¬ r10 = (0 : Int32) → (((120 : Int32) ≤ (r6 + r4) → wm_Wp 0 295 76 [.ref 89, .int x1, .int r4, .int (r6 + r4), .null, .null, .null] μ9 Q) ∧ (¬ (120 : Int32) ≤ (r6 + r4) → wm_OkI 0 188 [.ref 89, .int (10 : Int32)] μ9 (fun r12 μ11 => wm_Wp 0 295 87 [.ref 89, .int x1, .int r4, .int (r6 + r4), .int (1 : Int32), .int r12, .null] μ11 Q))))))))))) : wm_Wp 0 295 33 [.ref 89, .int x1, .null, .null, .null, .null, .null] μ Q := f_295_33 x1 μ Q (wm_OkI.mono h (fun r2 μ1 h6 => (wm_OkI.mono h6 (fun r4 μ3 h5 => (f_295_44 x1 r4 μ3 Q (wm_OkI.mono h5 (fun r6 μ5 h4 => (f_295_53 x1 r4 (r6 + r4) μ5 Q (wm_OkI.mono h4 (fun r8 μ7 h3 => (wm_OkI.mono h3 (fun r10 μ9 h2 => ⟨fun c1 => (h2.1 c1), fun c1 => (f_295_66 x1 r4 (r6 + r4) μ9 Q (h2.2 c1))⟩))))))))))))
-- .. at 76
set_option maxRecDepth 100000 in
theorem w_295_76 (x1 : Int32) (x2 : Int32) (x3 : Int32) (μ : wm_M) (Q : Option Value → wm_M → Prop) (h : wm_OkI 0 188 [.ref 89, .int (10 : Int32)] μ (fun r2 μ1 => wm_Wp 0 295 87 [.ref 89, .int x1, .int x2, .int x3, .int (0 : Int32), .int r2, .null] μ1 Q)) : wm_Wp 0 295 76 [.ref 89, .int x1, .int x2, .int x3, .null, .null, .null] μ Q := f_295_76 x1 x2 x3 μ Q h
-- .. at 87
set_option maxRecDepth 100000 in
theorem w_295_87 (x1 : Int32) (x2 : Int32) (x3 : Int32) (x4 : Int32) (x5 : Int32) (μ : wm_M) (Q : Option Value → wm_M → Prop) (h : ((x3 ≤ x5 → wm_Wp 0 295 135 [.ref 89, .int x1, .int x2, .int x3, .int x4, .null, .null] μ Q) ∧ (¬ x3 ≤ x5 → ((x4 = (0 : Int32) → wm_Wp 0 295 135 [.ref 89, .int x1, .int x2, .int x3, .int x4, .null, .null] μ Q) ∧ (¬ x4 = (0 : Int32) → wm_OkI 0 188 [.ref 89, .int (9 : Int32)] μ (fun r2 μ1 => wm_OkI 0 188 [.ref 89, .int (7 : Int32)] μ1 (fun r4 μ3 => wm_OkI 0 192 [.int x5] μ3 (fun r6 μ5 => wm_OkI 0 292 [.ref 89, .int r2, .int r4, .int r6] μ5 (fun r8 μ7 => ((r8 = (0 : Int32) → wm_Wp 0 295 87 [.ref 89, .int x1, .int x2, .int x3, .int (1 : Int32), .int (x5 + (1 : Int32)), .null] μ7 Q) ∧ (¬ r8 = (0 : Int32) → wm_Wp 0 295 126 [.ref 89, .int x1, .int x2, .int x3, .null, .int x5, .null] μ7 Q))))))))))) : wm_Wp 0 295 87 [.ref 89, .int x1, .int x2, .int x3, .int x4, .int x5, .null] μ Q := f_295_87 x1 x2 x3 x4 x5 μ Q ⟨fun c7 => (h.1 c7), fun c7 => ⟨fun c6 => ((h.2 c7).1 c6), fun c6 => (wm_OkI.mono ((h.2 c7).2 c6) (fun r2 μ1 h5 => (wm_OkI.mono h5 (fun r4 μ3 h4 => (wm_OkI.mono h4 (fun r6 μ5 h3 => (wm_OkI.mono h3 (fun r8 μ7 h2 => ⟨fun c1 => (f_295_122 x1 x2 x3 x5 μ7 Q (h2.1 c1)), fun c1 => (h2.2 c1)⟩))))))))⟩⟩
-- .. at 126
set_option maxRecDepth 100000 in
theorem w_295_126 (x1 : Int32) (x2 : Int32) (x3 : Int32) (x5 : Int32) (μ : wm_M) (Q : Option Value → wm_M → Prop) (h : wm_Wp 0 295 87 [.ref 89, .int x1, .int x2, .int x3, .int (0 : Int32), .int (x5 + (1 : Int32)), .null] μ Q) : wm_Wp 0 295 126 [.ref 89, .int x1, .int x2, .int x3, .null, .int x5, .null] μ Q := f_295_126 x1 x2 x3 x5 μ Q h
-- .. at 135
set_option maxRecDepth 100000 in
theorem w_295_135 (x1 : Int32) (x2 : Int32) (x3 : Int32) (x4 : Int32) (μ : wm_M) (Q : Option Value → wm_M → Prop) (h : ((x4 = (0 : Int32) → wm_OkI 0 185 [.ref 89, .int (-7 : Int32)] μ (fun r2 μ1 => Q (some (.int r2)) μ1)) ∧ (¬ x4 = (0 : Int32) → wm_Wp 0 295 147 [.ref 89, .int x1, .int x2, .int x3, .null, .null, .null] μ Q))) : wm_Wp 0 295 135 [.ref 89, .int x1, .int x2, .int x3, .int x4, .null, .null] μ Q := f_295_135 x1 x2 x3 x4 μ Q h
-- .. at 147
set_option maxRecDepth 100000 in
theorem w_295_147 (x1 : Int32) (x2 : Int32) (x3 : Int32) (μ : wm_M) (Q : Option Value → wm_M → Prop) (h : wm_OkI 0 188 [.ref 89, .int (7 : Int32)] μ (fun r2 μ1 => wm_OkI 0 247 [.int r2, .int x1] μ1 (fun r4 μ3 => wm_OkI 0 192 [.int x3] μ3 (fun r6 μ5 => wm_OkI 0 188 [.ref 89, .int (7 : Int32)] μ5 (fun r8 μ7 => wm_OkI 0 188 [.ref 89, .int (9 : Int32)] μ7 (fun r10 μ9 => wm_OkV 0 245 [.ref 89, .int r6, .int r8, .int r10] μ9 (fun μ11 => ((r4 = (-1 : Int32) → wm_Wp 0 295 201 [.ref 89, .int x1, .int x2, .int x3, .null, .null, .null] μ11 Q) ∧ (¬ r4 = (-1 : Int32) → wm_OkI 0 192 [.int x3] μ11 (fun r13 μ12 => wm_OkI 0 188 [.ref 89, .int (9 : Int32)] μ12 (fun r15 μ14 => wm_OkV 0 245 [.ref 89, .int r13, .int r4, .int r15] μ14 (fun μ16 => wm_Wp 0 295 201 [.ref 89, .int x1, .int x2, .int x3, .null, .null, .null] μ16 Q)))))))))))) : wm_Wp 0 295 147 [.ref 89, .int x1, .int x2, .int x3, .null, .null, .null] μ Q := f_295_147 x1 x2 x3 μ Q (wm_OkI.mono h (fun r2 μ1 h6 => (wm_OkI.mono h6 (fun r4 μ3 h5 => (f_295_159 x1 x2 x3 r4 μ3 Q (wm_OkI.mono h5 (fun r6 μ5 h4 => (wm_OkI.mono h4 (fun r8 μ7 h3 => (wm_OkI.mono h3 (fun r10 μ9 h2 => (wm_OkV.mono h2 (fun μ11 h1 => (f_295_179 x1 x2 x3 r4 μ11 Q h1))))))))))))))
-- .. at 201
set_option maxRecDepth 100000 in
theorem w_295_201 (x1 : Int32) (x2 : Int32) (x3 : Int32) (μ : wm_M) (Q : Option Value → wm_M → Prop) (h : wm_OkI 0 188 [.ref 89, .int (7 : Int32)] μ (fun r2 μ1 => wm_OkI 0 188 [.ref 89, .int (9 : Int32)] μ1 (fun r4 μ3 => wm_OkI 0 192 [.int x3] μ3 (fun r6 μ5 => wm_OkI 0 249 [.ref 89, .int (6 : Int32), .int (1 : Int32), .int (((3 : Int32) * (((8 : Int32) * r2) + x1)) + r4), .int r6] μ5 (fun r8 μ7 => ((r8 = (0 : Int32) → wm_Wp 0 295 248 [.ref 89, .null, .null, .null, .null, .null, .null] μ7 Q) ∧ (¬ r8 = (0 : Int32) → (((x3 + r8) ≤ (120 : Int32) → wm_Wp 0 295 255 [.ref 89, .int x1, .int x2, .null, .null, .null, .int r8] μ7 Q) ∧ (¬ (x3 + r8) ≤ (120 : Int32) → wm_Wp 0 295 248 [.ref 89, .null, .null, .null, .null, .null, .null] μ7 Q))))))))) : wm_Wp 0 295 201 [.ref 89, .int x1, .int x2, .int x3, .null, .null, .null] μ Q := f_295_201 x1 x2 x3 μ Q (wm_OkI.mono h (fun r2 μ1 h4 => (wm_OkI.mono h4 (fun r4 μ3 h3 => (wm_OkI.mono h3 (fun r6 μ5 h2 => (wm_OkI.mono h2 (fun r8 μ7 h1 => (f_295_234 x1 x2 x3 r8 μ7 Q h1)))))))))
-- .. at 248
set_option maxRecDepth 100000 in
theorem w_295_248 (μ : wm_M) (Q : Option Value → wm_M → Prop) (h : wm_OkI 0 185 [.ref 89, .int (-7 : Int32)] μ (fun r2 μ1 => Q (some (.int r2)) μ1)) : wm_Wp 0 295 248 [.ref 89, .null, .null, .null, .null, .null, .null] μ Q := f_295_248  μ Q h
-- .. at 255
set_option maxRecDepth 100000 in
theorem w_295_255 (x1 : Int32) (x2 : Int32) (x6 : Int32) (μ : wm_M) (Q : Option Value → wm_M → Prop) (h : wm_OkV 0 293 [.ref 89, .int (x2 + x6)] μ (fun μ1 => (vp_in (2048 : Int32) 2060 ∧ wm_OkI 0 188 [.ref 89, .int (7 : Int32)] (wm_si μ1 91 ((2048 : Int32)).toNatClampNeg x1) (fun r3 μ2 => wm_OkI 0 247 [.int r3, .int x1] μ2 (fun r5 μ4 => (vp_in (2047 : Int32) 2060 ∧ (vp_in (2053 : Int32) 2060 ∧ (vp_in (2053 : Int32) 2060 ∧ wm_OkI 0 188 [.ref 89, .int (10 : Int32)] (wm_si (wm_si μ4 91 ((2047 : Int32)).toNatClampNeg r5) 91 ((2053 : Int32)).toNatClampNeg (((wm_si μ4 91 ((2047 : Int32)).toNatClampNeg r5).1 91 ((2053 : Int32)).toNatClampNeg) + (1 : Int32))) (fun r7 μ6 => Q (some (.int r7)) μ6))))))))) : wm_Wp 0 295 255 [.ref 89, .int x1, .int x2, .null, .null, .null, .int x6] μ Q := f_295_255 x1 x2 x6 μ Q (wm_OkV.mono h (fun μ1 h7 => (f_295_263 x1 μ1 Q ⟨h7.1, (f_295_272 x1 (wm_si μ1 91 ((2048 : Int32)).toNatClampNeg x1) Q (wm_OkI.mono h7.2 (fun r3 μ2 h5 => (wm_OkI.mono h5 (fun r5 μ4 h4 => ⟨h4.1, (f_295_290  (wm_si μ4 91 ((2047 : Int32)).toNatClampNeg r5) Q ⟨h4.2.1, ⟨h4.2.2.1, (f_295_302  (wm_si (wm_si μ4 91 ((2047 : Int32)).toNatClampNeg r5) 91 ((2053 : Int32)).toNatClampNeg (((wm_si μ4 91 ((2047 : Int32)).toNatClampNeg r5).1 91 ((2053 : Int32)).toNatClampNeg) + (1 : Int32))) Q h4.2.2.2)⟩⟩)⟩)))))⟩)))
-- WindBoatModel.raise(I)I
set_option maxRecDepth 100000 in
theorem v_296 (a1 : Int32) (μ : wm_M) (Q : Option Value → wm_M → Prop) (h : wm_OkI 0 188 [.ref 89, .int (6 : Int32)] μ (fun r2 μ1 => ((r2 = (0 : Int32) → wm_OkI 0 185 [.ref 89, .int (-2 : Int32)] μ1 (fun r4 μ3 => Q (some (.int r4)) μ3)) ∧ (¬ r2 = (0 : Int32) → wm_Wp 0 296 16 [.ref 89, .int a1, .null] μ1 Q)))) : wm_Ok 0 296 [.ref 89, .int a1] μ Q := f_296 a1 μ Q (wm_OkI.mono h (fun r2 μ1 h2 => ⟨fun c1 => (f_296_9  μ1 Q (h2.1 c1)), fun c1 => (h2.2 c1)⟩))
-- .. at 16
set_option maxRecDepth 100000 in
theorem w_296_16 (x1 : Int32) (μ : wm_M) (Q : Option Value → wm_M → Prop) (h : wm_OkI 0 191 [.ref 89, .int x1] μ (fun r2 μ1 => ((r2 = (0 : Int32) → wm_OkI 0 185 [.ref 89, .int (-3 : Int32)] μ1 (fun r4 μ3 => Q (some (.int r4)) μ3)) ∧ (¬ r2 = (0 : Int32) → wm_Wp 0 296 31 [.ref 89, .int x1, .null] μ1 Q)))) : wm_Wp 0 296 16 [.ref 89, .int x1, .null] μ Q := f_296_16 x1 μ Q (wm_OkI.mono h (fun r2 μ1 h2 => ⟨fun c1 => (f_296_24  μ1 Q (h2.1 c1)), fun c1 => (h2.2 c1)⟩))
-- .. at 31
set_option maxRecDepth 100000 in
theorem w_296_31 (x1 : Int32) (μ : wm_M) (Q : Option Value → wm_M → Prop) (h : wm_OkI 0 188 [.ref 89, .int (9 : Int32)] μ (fun r2 μ1 => ((x1 = r2 → wm_Wp 0 296 49 [.ref 89, .null, .null] μ1 Q) ∧ (¬ x1 = r2 → wm_OkI 0 213 [.ref 89, .int x1] μ1 (fun r4 μ3 => ((r4 = (0 : Int32) → wm_Wp 0 296 49 [.ref 89, .null, .null] μ3 Q) ∧ (¬ r4 = (0 : Int32) → wm_Wp 0 296 56 [.ref 89, .int x1, .null] μ3 Q))))))) : wm_Wp 0 296 31 [.ref 89, .int x1, .null] μ Q := f_296_31 x1 μ Q (wm_OkI.mono h (fun r2 μ1 h2 => ⟨fun c1 => (h2.1 c1), fun c1 => (f_296_41 x1 μ1 Q (h2.2 c1))⟩))
-- .. at 49
set_option maxRecDepth 100000 in
theorem w_296_49 (μ : wm_M) (Q : Option Value → wm_M → Prop) (h : wm_OkI 0 185 [.ref 89, .int (-7 : Int32)] μ (fun r2 μ1 => Q (some (.int r2)) μ1)) : wm_Wp 0 296 49 [.ref 89, .null, .null] μ Q := f_296_49  μ Q h
-- .. at 56
set_option maxRecDepth 100000 in
theorem w_296_56 (x1 : Int32) (μ : wm_M) (Q : Option Value → wm_M → Prop) (h : wm_OkI 0 222 [.ref 89] μ (fun r2 μ1 => wm_OkI 0 188 [.ref 89, .int (10 : Int32)] μ1 (fun r4 μ3 => (((r4 + r2) ≤ (120 : Int32) → wm_Wp 0 296 81 [.ref 89, .int x1, .int r2] μ3 Q) ∧ (¬ (r4 + r2) ≤ (120 : Int32) → wm_OkI 0 185 [.ref 89, .int (-8 : Int32)] μ3 (fun r6 μ5 => Q (some (.int r6)) μ5)))))) : wm_Wp 0 296 56 [.ref 89, .int x1, .null] μ Q := f_296_56 x1 μ Q (wm_OkI.mono h (fun r2 μ1 h3 => (f_296_61 x1 r2 μ1 Q (wm_OkI.mono h3 (fun r4 μ3 h2 => ⟨fun c1 => (h2.1 c1), fun c1 => (f_296_74  μ3 Q (h2.2 c1))⟩)))))
-- .. at 81
set_option maxRecDepth 100000 in
theorem w_296_81 (x1 : Int32) (x2 : Int32) (μ : wm_M) (Q : Option Value → wm_M → Prop) (h : wm_OkV 0 293 [.ref 89, .int x2] μ (fun μ1 => (vp_in (2049 : Int32) 2060 ∧ wm_OkI 0 188 [.ref 89, .int (10 : Int32)] (wm_si μ1 91 ((2049 : Int32)).toNatClampNeg x1) (fun r3 μ2 => Q (some (.int r3)) μ2)))) : wm_Wp 0 296 81 [.ref 89, .int x1, .int x2] μ Q := f_296_81 x1 x2 μ Q (wm_OkV.mono h (fun μ1 h2 => (f_296_86 x1 μ1 Q ⟨h2.1, (f_296_95  (wm_si μ1 91 ((2049 : Int32)).toNatClampNeg x1) Q h2.2)⟩)))
-- WindBoatModel.mend(I)I
set_option maxRecDepth 100000 in
theorem v_297 (a1 : Int32) (μ : wm_M) (Q : Option Value → wm_M → Prop) (h : wm_OkI 0 188 [.ref 89, .int (6 : Int32)] μ (fun r2 μ1 => ((r2 = (0 : Int32) → wm_OkI 0 185 [.ref 89, .int (-2 : Int32)] μ1 (fun r4 μ3 => Q (some (.int r4)) μ3)) ∧ (¬ r2 = (0 : Int32) → wm_Wp 0 297 16 [.ref 89, .int a1] μ1 Q)))) : wm_Ok 0 297 [.ref 89, .int a1] μ Q := f_297 a1 μ Q (wm_OkI.mono h (fun r2 μ1 h2 => ⟨fun c1 => (f_297_9  μ1 Q (h2.1 c1)), fun c1 => (h2.2 c1)⟩))
-- .. at 16
set_option maxRecDepth 100000 in
theorem w_297_16 (x1 : Int32) (μ : wm_M) (Q : Option Value → wm_M → Prop) (h : wm_OkI 0 191 [.ref 89, .int x1] μ (fun r2 μ1 => ((r2 = (0 : Int32) → wm_OkI 0 185 [.ref 89, .int (-3 : Int32)] μ1 (fun r4 μ3 => Q (some (.int r4)) μ3)) ∧ (¬ r2 = (0 : Int32) → wm_Wp 0 297 31 [.ref 89, .int x1] μ1 Q)))) : wm_Wp 0 297 16 [.ref 89, .int x1] μ Q := f_297_16 x1 μ Q (wm_OkI.mono h (fun r2 μ1 h2 => ⟨fun c1 => (f_297_24  μ1 Q (h2.1 c1)), fun c1 => (h2.2 c1)⟩))
-- .. at 31
set_option maxRecDepth 100000 in
theorem w_297_31 (x1 : Int32) (μ : wm_M) (Q : Option Value → wm_M → Prop) (h : wm_OkI 0 213 [.ref 89, .int x1] μ (fun r2 μ1 => ((r2 = (0 : Int32) → wm_Wp 0 297 46 [.ref 89, .int x1] μ1 Q) ∧ (¬ r2 = (0 : Int32) → wm_OkI 0 185 [.ref 89, .int (-7 : Int32)] μ1 (fun r4 μ3 => Q (some (.int r4)) μ3))))) : wm_Wp 0 297 31 [.ref 89, .int x1] μ Q := f_297_31 x1 μ Q (wm_OkI.mono h (fun r2 μ1 h2 => ⟨fun c1 => (h2.1 c1), fun c1 => (f_297_39  μ1 Q (h2.2 c1))⟩))
-- .. at 46
set_option maxRecDepth 100000 in
theorem w_297_46 (x1 : Int32) (μ : wm_M) (Q : Option Value → wm_M → Prop) (h : wm_OkI 0 188 [.ref 89, .int (10 : Int32)] μ (fun r2 μ1 => (((r2 + (12 : Int32)) ≤ (120 : Int32) → wm_Wp 0 297 67 [.ref 89, .int x1] μ1 Q) ∧ (¬ (r2 + (12 : Int32)) ≤ (120 : Int32) → wm_OkI 0 185 [.ref 89, .int (-8 : Int32)] μ1 (fun r4 μ3 => Q (some (.int r4)) μ3))))) : wm_Wp 0 297 46 [.ref 89, .int x1] μ Q := f_297_46 x1 μ Q (wm_OkI.mono h (fun r2 μ1 h2 => ⟨fun c1 => (h2.1 c1), fun c1 => (f_297_60  μ1 Q (h2.2 c1))⟩))
-- .. at 67
set_option maxRecDepth 100000 in
theorem w_297_67 (x1 : Int32) (μ : wm_M) (Q : Option Value → wm_M → Prop) (h : wm_OkV 0 293 [.ref 89, .int (12 : Int32)] μ (fun μ1 => (vp_in ((452 : Int32) + x1) 2060 ∧ wm_OkI 0 188 [.ref 89, .int (10 : Int32)] (wm_si μ1 91 (((452 : Int32) + x1)).toNatClampNeg (0 : Int32)) (fun r3 μ2 => Q (some (.int r3)) μ2)))) : wm_Wp 0 297 67 [.ref 89, .int x1] μ Q := f_297_67 x1 μ Q (wm_OkV.mono h (fun μ1 h2 => (f_297_73 x1 μ1 Q ⟨h2.1, (f_297_84  (wm_si μ1 91 (((452 : Int32) + x1)).toNatClampNeg (0 : Int32)) Q h2.2)⟩)))
-- WindBoatModel.boat(I)I
set_option maxRecDepth 100000 in
theorem v_298 (a1 : Int32) (μ : wm_M) (Q : Option Value → wm_M → Prop) (h : wm_OkI 0 188 [.ref 89, .int (6 : Int32)] μ (fun r2 μ1 => ((r2 = (0 : Int32) → wm_OkI 0 185 [.ref 89, .int (-2 : Int32)] μ1 (fun r4 μ3 => Q (some (.int r4)) μ3)) ∧ (¬ r2 = (0 : Int32) → wm_Wp 0 298 16 [.ref 89, .int a1, .null, .null] μ1 Q)))) : wm_Ok 0 298 [.ref 89, .int a1] μ Q := f_298 a1 μ Q (wm_OkI.mono h (fun r2 μ1 h2 => ⟨fun c1 => (f_298_9  μ1 Q (h2.1 c1)), fun c1 => (h2.2 c1)⟩))
-- .. at 16
set_option maxRecDepth 100000 in
theorem w_298_16 (x1 : Int32) (μ : wm_M) (Q : Option Value → wm_M → Prop) (h : (((x1).toInt < 0 ∨ 7 < (x1).toInt → wm_Wp 0 298 139 [.ref 89, .null, .null, .null] μ Q) ∧ (((x1).toInt = 0 → wm_Wp 0 298 64 [.ref 89, .null, .null, .null] μ Q) ∧ (((x1).toInt = 1 → wm_Wp 0 298 71 [.ref 89, .null, .null, .null] μ Q) ∧ (((x1).toInt = 2 → wm_Wp 0 298 78 [.ref 89, .null, .null, .null] μ Q) ∧ (((x1).toInt = 3 → wm_Wp 0 298 85 [.ref 89, .null, .null, .null] μ Q) ∧ (((x1).toInt = 4 → wm_Wp 0 298 92 [.ref 89, .null, .null, .null] μ Q) ∧ (((x1).toInt = 5 → wm_Wp 0 298 97 [.ref 89, .null, .null, .null] μ Q) ∧ (((x1).toInt = 6 → wm_Wp 0 298 102 [.ref 89, .null, .null, .null] μ Q) ∧ (((x1).toInt = 7 → wm_Wp 0 298 107 [.ref 89, .null, .int (0 : Int32), .null] μ Q) ∧ True)))))))))) : wm_Wp 0 298 16 [.ref 89, .int x1, .null, .null] μ Q := f_298_16 x1 μ Q h
-- .. at 64
set_option maxRecDepth 100000 in
theorem w_298_64 (μ : wm_M) (Q : Option Value → wm_M → Prop) (h : wm_OkI 0 188 [.ref 89, .int (7 : Int32)] μ (fun r2 μ1 => Q (some (.int r2)) μ1)) : wm_Wp 0 298 64 [.ref 89, .null, .null, .null] μ Q := f_298_64  μ Q h
-- .. at 71
set_option maxRecDepth 100000 in
theorem w_298_71 (μ : wm_M) (Q : Option Value → wm_M → Prop) (h : wm_OkI 0 188 [.ref 89, .int (8 : Int32)] μ (fun r2 μ1 => Q (some (.int r2)) μ1)) : wm_Wp 0 298 71 [.ref 89, .null, .null, .null] μ Q := f_298_71  μ Q h
-- .. at 78
set_option maxRecDepth 100000 in
theorem w_298_78 (μ : wm_M) (Q : Option Value → wm_M → Prop) (h : wm_OkI 0 188 [.ref 89, .int (9 : Int32)] μ (fun r2 μ1 => Q (some (.int r2)) μ1)) : wm_Wp 0 298 78 [.ref 89, .null, .null, .null] μ Q := f_298_78  μ Q h
-- .. at 85
set_option maxRecDepth 100000 in
theorem w_298_85 (μ : wm_M) (Q : Option Value → wm_M → Prop) (h : wm_OkI 0 188 [.ref 89, .int (10 : Int32)] μ (fun r2 μ1 => Q (some (.int r2)) μ1)) : wm_Wp 0 298 85 [.ref 89, .null, .null, .null] μ Q := f_298_85  μ Q h
-- .. at 92
set_option maxRecDepth 100000 in
theorem w_298_92 (μ : wm_M) (Q : Option Value → wm_M → Prop) (h : wm_OkI 0 222 [.ref 89] μ (fun r2 μ1 => Q (some (.int r2)) μ1)) : wm_Wp 0 298 92 [.ref 89, .null, .null, .null] μ Q := f_298_92  μ Q h
-- .. at 97
set_option maxRecDepth 100000 in
theorem w_298_97 (μ : wm_M) (Q : Option Value → wm_M → Prop) (h : wm_OkI 0 220 [.ref 89] μ (fun r2 μ1 => Q (some (.int r2)) μ1)) : wm_Wp 0 298 97 [.ref 89, .null, .null, .null] μ Q := f_298_97  μ Q h
-- .. at 102
set_option maxRecDepth 100000 in
theorem w_298_102 (μ : wm_M) (Q : Option Value → wm_M → Prop) (h : wm_OkI 0 221 [.ref 89] μ (fun r2 μ1 => Q (some (.int r2)) μ1)) : wm_Wp 0 298 102 [.ref 89, .null, .null, .null] μ Q := f_298_102  μ Q h
-- .. at 107
set_option maxRecDepth 100000 in
theorem w_298_107 (x2 : Int32) (μ : wm_M) (Q : Option Value → wm_M → Prop) (h : wm_Wp 0 298 109 [.ref 89, .null, .int x2, .int (0 : Int32)] μ Q) : wm_Wp 0 298 107 [.ref 89, .null, .int x2, .null] μ Q := f_298_107 x2 μ Q h
-- .. at 109
set_option maxRecDepth 100000 in
theorem w_298_109 (x2 : Int32) (x3 : Int32) (μ : wm_M) (Q : Option Value → wm_M → Prop) (h : wm_OkI 0 188 [.ref 89, .int (1 : Int32)] μ (fun r2 μ1 => ((r2 ≤ x3 → wm_Wp 0 298 137 [.null, .null, .int x2, .null] μ1 Q) ∧ (¬ r2 ≤ x3 → (vp_in ((455 : Int32) + x3) 2060 ∧ wm_Wp 0 298 109 [.ref 89, .null, .int (x2 + (μ1.1 91 (((455 : Int32) + x3)).toNatClampNeg)), .int (x3 + (1 : Int32))] μ1 Q))))) : wm_Wp 0 298 109 [.ref 89, .null, .int x2, .int x3] μ Q := f_298_109 x2 x3 μ Q (wm_OkI.mono h (fun r2 μ1 h2 => ⟨fun c1 => (h2.1 c1), fun c1 => (f_298_118 x2 x3 μ1 Q (h2.2 c1))⟩))
-- .. at 137
set_option maxRecDepth 100000 in
theorem w_298_137 (x2 : Int32) (μ : wm_M) (Q : Option Value → wm_M → Prop) (h : Q (some (.int x2)) μ) : wm_Wp 0 298 137 [.null, .null, .int x2, .null] μ Q := f_298_137 x2 μ Q h
-- .. at 139
set_option maxRecDepth 100000 in
theorem w_298_139 (μ : wm_M) (Q : Option Value → wm_M → Prop) (h : wm_OkI 0 185 [.ref 89, .int (-7 : Int32)] μ (fun r2 μ1 => Q (some (.int r2)) μ1)) : wm_Wp 0 298 139 [.ref 89, .null, .null, .null] μ Q := f_298_139  μ Q h
-- WindBoatModel.sailed(II)I
set_option maxRecDepth 100000 in
theorem v_299 (a1 : Int32) (a2 : Int32) (μ : wm_M) (Q : Option Value → wm_M → Prop) (h : (((a2 &&& (4 : Int32)) = (0 : Int32) → wm_Wp 0 299 10 [.ref 89, .int a1, .int a2, .null, .null, .null, .null, .null, .null, .null, .null, .null, .null] μ Q) ∧ (¬ (a2 &&& (4 : Int32)) = (0 : Int32) → (((a2 &&& (1 : Int32)) = (0 : Int32) → wm_Wp 0 299 26 [.ref 89, .int a1, .int a2, .int (2 : Int32), .null, .null, .null, .null, .null, .null, .null, .null, .null] μ Q) ∧ (¬ (a2 &&& (1 : Int32)) = (0 : Int32) → (((a2 &&& (2 : Int32)) = (0 : Int32) → wm_OkI 0 188 [.ref 89, .int (12 : Int32)] μ (fun r2 μ1 => wm_OkV 0 250 [.ref 89, .int (6 : Int32), .int (0 : Int32), .int r2] μ1 (fun μ3 => wm_OkI 0 188 [.ref 89, .int (11 : Int32)] μ3 (fun r5 μ4 => wm_OkI 0 188 [.ref 89, .int (12 : Int32)] μ4 (fun r7 μ6 => wm_OkV 0 252 [.ref 89, .int (2 : Int32), .int r5, .int r7] μ6 (fun μ8 => wm_OkI 0 188 [.ref 89, .int (5 : Int32)] μ8 (fun r10 μ9 => wm_OkI 0 256 [.ref 89, .int (2 : Int32), .int r10] μ9 (fun r12 μ11 => ((r12 = (0 : Int32) → Q (some (.int (999 : Int32))) μ11) ∧ (¬ r12 = (0 : Int32) → wm_Wp 0 299 86 [.ref 89, .null, .null, .int (2 : Int32), .null, .null, .null, .null, .null, .null, .null, .null, .null] μ11 Q)))))))))) ∧ (¬ (a2 &&& (2 : Int32)) = (0 : Int32) → wm_OkI 0 188 [.ref 89, .int (12 : Int32)] μ (fun r14 μ13 => wm_OkV 0 250 [.ref 89, .int (6 : Int32), .int (1 : Int32), .int r14] μ13 (fun μ15 => wm_OkI 0 188 [.ref 89, .int (11 : Int32)] μ15 (fun r17 μ16 => wm_OkI 0 188 [.ref 89, .int (12 : Int32)] μ16 (fun r19 μ18 => wm_OkV 0 252 [.ref 89, .int (2 : Int32), .int r17, .int r19] μ18 (fun μ20 => wm_OkI 0 188 [.ref 89, .int (5 : Int32)] μ20 (fun r22 μ21 => wm_OkI 0 256 [.ref 89, .int (2 : Int32), .int r22] μ21 (fun r24 μ23 => ((r24 = (0 : Int32) → Q (some (.int (999 : Int32))) μ23) ∧ (¬ r24 = (0 : Int32) → wm_Wp 0 299 86 [.ref 89, .null, .null, .int (2 : Int32), .null, .null, .null, .null, .null, .null, .null, .null, .null] μ23 Q)))))))))))))))) : wm_Ok 0 299 [.ref 89, .int a1, .int a2] μ Q := f_299 a1 a2 μ Q ⟨fun c19 => (h.1 c19), fun c19 => ⟨fun c18 => ((h.2 c19).1 c18), fun c18 => ⟨fun c17 => (wm_OkI.mono (((h.2 c19).2 c18).1 c17) (fun r2 μ1 h8 => (wm_OkV.mono h8 (fun μ3 h7 => (f_299_52 (2 : Int32) μ3 Q (wm_OkI.mono h7 (fun r5 μ4 h6 => (wm_OkI.mono h6 (fun r7 μ6 h5 => (wm_OkV.mono h5 (fun μ8 h4 => (f_299_69 (2 : Int32) μ8 Q (wm_OkI.mono h4 (fun r10 μ9 h3 => (wm_OkI.mono h3 (fun r12 μ11 h2 => ⟨fun c1 => (f_299_82  μ11 Q (h2.1 c1)), fun c1 => (h2.2 c1)⟩)))))))))))))))), fun c17 => (wm_OkI.mono (((h.2 c19).2 c18).2 c17) (fun r14 μ13 h16 => (wm_OkV.mono h16 (fun μ15 h15 => (f_299_52 (2 : Int32) μ15 Q (wm_OkI.mono h15 (fun r17 μ16 h14 => (wm_OkI.mono h14 (fun r19 μ18 h13 => (wm_OkV.mono h13 (fun μ20 h12 => (f_299_69 (2 : Int32) μ20 Q (wm_OkI.mono h12 (fun r22 μ21 h11 => (wm_OkI.mono h11 (fun r24 μ23 h10 => ⟨fun c9 => (f_299_82  μ23 Q (h10.1 c9)), fun c9 => (h10.2 c9)⟩))))))))))))))))⟩⟩⟩
-- .. at 10
set_option maxRecDepth 100000 in
theorem w_299_10 (x1 : Int32) (x2 : Int32) (μ : wm_M) (Q : Option Value → wm_M → Prop) (h : wm_OkI 0 222 [.ref 89] μ (fun r2 μ1 => (((x2 &&& (1 : Int32)) = (0 : Int32) → wm_Wp 0 299 26 [.ref 89, .int x1, .int x2, .int r2, .null, .null, .null, .null, .null, .null, .null, .null, .null] μ1 Q) ∧ (¬ (x2 &&& (1 : Int32)) = (0 : Int32) → (((x2 &&& (2 : Int32)) = (0 : Int32) → wm_OkI 0 188 [.ref 89, .int (12 : Int32)] μ1 (fun r4 μ3 => wm_OkV 0 250 [.ref 89, .int (6 : Int32), .int (0 : Int32), .int r4] μ3 (fun μ5 => wm_OkI 0 188 [.ref 89, .int (11 : Int32)] μ5 (fun r7 μ6 => wm_OkI 0 188 [.ref 89, .int (12 : Int32)] μ6 (fun r9 μ8 => wm_OkV 0 252 [.ref 89, .int r2, .int r7, .int r9] μ8 (fun μ10 => wm_OkI 0 188 [.ref 89, .int (5 : Int32)] μ10 (fun r12 μ11 => wm_OkI 0 256 [.ref 89, .int r2, .int r12] μ11 (fun r14 μ13 => ((r14 = (0 : Int32) → Q (some (.int (999 : Int32))) μ13) ∧ (¬ r14 = (0 : Int32) → wm_Wp 0 299 86 [.ref 89, .null, .null, .int r2, .null, .null, .null, .null, .null, .null, .null, .null, .null] μ13 Q)))))))))) ∧ (¬ (x2 &&& (2 : Int32)) = (0 : Int32) → wm_OkI 0 188 [.ref 89, .int (12 : Int32)] μ1 (fun r16 μ15 => wm_OkV 0 250 [.ref 89, .int (6 : Int32), .int (1 : Int32), .int r16] μ15 (fun μ17 => wm_OkI 0 188 [.ref 89, .int (11 : Int32)] μ17 (fun r19 μ18 => wm_OkI 0 188 [.ref 89, .int (12 : Int32)] μ18 (fun r21 μ20 => wm_OkV 0 252 [.ref 89, .int r2, .int r19, .int r21] μ20 (fun μ22 => wm_OkI 0 188 [.ref 89, .int (5 : Int32)] μ22 (fun r24 μ23 => wm_OkI 0 256 [.ref 89, .int r2, .int r24] μ23 (fun r26 μ25 => ((r26 = (0 : Int32) → Q (some (.int (999 : Int32))) μ25) ∧ (¬ r26 = (0 : Int32) → wm_Wp 0 299 86 [.ref 89, .null, .null, .int r2, .null, .null, .null, .null, .null, .null, .null, .null, .null] μ25 Q))))))))))))))) : wm_Wp 0 299 10 [.ref 89, .int x1, .int x2, .null, .null, .null, .null, .null, .null, .null, .null, .null, .null] μ Q := f_299_10 x1 x2 μ Q (wm_OkI.mono h (fun r2 μ1 h19 => ⟨fun c18 => (h19.1 c18), fun c18 => ⟨fun c17 => (wm_OkI.mono ((h19.2 c18).1 c17) (fun r4 μ3 h8 => (wm_OkV.mono h8 (fun μ5 h7 => (f_299_52 r2 μ5 Q (wm_OkI.mono h7 (fun r7 μ6 h6 => (wm_OkI.mono h6 (fun r9 μ8 h5 => (wm_OkV.mono h5 (fun μ10 h4 => (f_299_69 r2 μ10 Q (wm_OkI.mono h4 (fun r12 μ11 h3 => (wm_OkI.mono h3 (fun r14 μ13 h2 => ⟨fun c1 => (f_299_82  μ13 Q (h2.1 c1)), fun c1 => (h2.2 c1)⟩)))))))))))))))), fun c17 => (wm_OkI.mono ((h19.2 c18).2 c17) (fun r16 μ15 h16 => (wm_OkV.mono h16 (fun μ17 h15 => (f_299_52 r2 μ17 Q (wm_OkI.mono h15 (fun r19 μ18 h14 => (wm_OkI.mono h14 (fun r21 μ20 h13 => (wm_OkV.mono h13 (fun μ22 h12 => (f_299_69 r2 μ22 Q (wm_OkI.mono h12 (fun r24 μ23 h11 => (wm_OkI.mono h11 (fun r26 μ25 h10 => ⟨fun c9 => (f_299_82  μ25 Q (h10.1 c9)), fun c9 => (h10.2 c9)⟩))))))))))))))))⟩⟩))
-- .. at 26
set_option maxRecDepth 100000 in
theorem w_299_26 (x1 : Int32) (x2 : Int32) (x3 : Int32) (μ : wm_M) (Q : Option Value → wm_M → Prop) (h : (((x2 &&& (2 : Int32)) = (0 : Int32) → wm_OkI 0 188 [.ref 89, .int (12 : Int32)] μ (fun r2 μ1 => wm_OkV 0 250 [.ref 89, .int x1, .int (0 : Int32), .int r2] μ1 (fun μ3 => wm_OkI 0 188 [.ref 89, .int (11 : Int32)] μ3 (fun r5 μ4 => wm_OkI 0 188 [.ref 89, .int (12 : Int32)] μ4 (fun r7 μ6 => wm_OkV 0 252 [.ref 89, .int x3, .int r5, .int r7] μ6 (fun μ8 => wm_OkI 0 188 [.ref 89, .int (5 : Int32)] μ8 (fun r10 μ9 => wm_OkI 0 256 [.ref 89, .int x3, .int r10] μ9 (fun r12 μ11 => ((r12 = (0 : Int32) → Q (some (.int (999 : Int32))) μ11) ∧ (¬ r12 = (0 : Int32) → wm_Wp 0 299 86 [.ref 89, .null, .null, .int x3, .null, .null, .null, .null, .null, .null, .null, .null, .null] μ11 Q)))))))))) ∧ (¬ (x2 &&& (2 : Int32)) = (0 : Int32) → wm_OkI 0 188 [.ref 89, .int (12 : Int32)] μ (fun r14 μ13 => wm_OkV 0 250 [.ref 89, .int x1, .int (1 : Int32), .int r14] μ13 (fun μ15 => wm_OkI 0 188 [.ref 89, .int (11 : Int32)] μ15 (fun r17 μ16 => wm_OkI 0 188 [.ref 89, .int (12 : Int32)] μ16 (fun r19 μ18 => wm_OkV 0 252 [.ref 89, .int x3, .int r17, .int r19] μ18 (fun μ20 => wm_OkI 0 188 [.ref 89, .int (5 : Int32)] μ20 (fun r22 μ21 => wm_OkI 0 256 [.ref 89, .int x3, .int r22] μ21 (fun r24 μ23 => ((r24 = (0 : Int32) → Q (some (.int (999 : Int32))) μ23) ∧ (¬ r24 = (0 : Int32) → wm_Wp 0 299 86 [.ref 89, .null, .null, .int x3, .null, .null, .null, .null, .null, .null, .null, .null, .null] μ23 Q)))))))))))) : wm_Wp 0 299 26 [.ref 89, .int x1, .int x2, .int x3, .null, .null, .null, .null, .null, .null, .null, .null, .null] μ Q := f_299_26 x1 x2 x3 μ Q ⟨fun c17 => (wm_OkI.mono (h.1 c17) (fun r2 μ1 h8 => (wm_OkV.mono h8 (fun μ3 h7 => (f_299_52 x3 μ3 Q (wm_OkI.mono h7 (fun r5 μ4 h6 => (wm_OkI.mono h6 (fun r7 μ6 h5 => (wm_OkV.mono h5 (fun μ8 h4 => (f_299_69 x3 μ8 Q (wm_OkI.mono h4 (fun r10 μ9 h3 => (wm_OkI.mono h3 (fun r12 μ11 h2 => ⟨fun c1 => (f_299_82  μ11 Q (h2.1 c1)), fun c1 => (h2.2 c1)⟩)))))))))))))))), fun c17 => (wm_OkI.mono (h.2 c17) (fun r14 μ13 h16 => (wm_OkV.mono h16 (fun μ15 h15 => (f_299_52 x3 μ15 Q (wm_OkI.mono h15 (fun r17 μ16 h14 => (wm_OkI.mono h14 (fun r19 μ18 h13 => (wm_OkV.mono h13 (fun μ20 h12 => (f_299_69 x3 μ20 Q (wm_OkI.mono h12 (fun r22 μ21 h11 => (wm_OkI.mono h11 (fun r24 μ23 h10 => ⟨fun c9 => (f_299_82  μ23 Q (h10.1 c9)), fun c9 => (h10.2 c9)⟩))))))))))))))))⟩
-- .. at 86
set_option maxRecDepth 100000 in
theorem w_299_86 (x3 : Int32) (μ : wm_M) (Q : Option Value → wm_M → Prop) (h : wm_OkI 0 188 [.ref 89, .int (12 : Int32)] μ (fun r2 μ1 => wm_OkI 0 188 [.ref 89, .int (11 : Int32)] μ1 (fun r4 μ3 => wm_Wp 0 299 110 [.ref 89, .null, .null, .int x3, .null, .int r2, .int r4, .int ((μ3.1 89 27) - (1 : Int32)), .null, .null, .null, .null, .null] μ3 Q))) : wm_Wp 0 299 86 [.ref 89, .null, .null, .int x3, .null, .null, .null, .null, .null, .null, .null, .null, .null] μ Q := f_299_86 x3 μ Q (wm_OkI.mono h (fun r2 μ1 h2 => (f_299_94 x3 r2 μ1 Q (wm_OkI.mono h2 (fun r4 μ3 h1 => (f_299_102 x3 r2 r4 μ3 Q h1))))))
-- .. at 110
set_option maxRecDepth 100000 in
theorem w_299_110 (x3 : Int32) (x5 : Int32) (x6 : Int32) (x7 : Int32) (μ : wm_M) (Q : Option Value → wm_M → Prop) (h : ((x7 < (0 : Int32) → wm_Wp 0 299 294 [.null, .null, .null, .null, .null, .int x5, .null, .null, .null, .null, .null, .null, .null] μ Q) ∧ (¬ x7 < (0 : Int32) → (vp_in x7 121 ∧ (¬ (10 : Int32) = 0 ∧ (vp_in x7 121 ∧ (¬ (10 : Int32) = 0 ∧ (¬ (24 : Int32) = 0 ∧ (¬ (3 : Int32) = 0 ∧ (¬ (8 : Int32) = 0 ∧ wm_OkI 0 248 [.int ((μ.1 97 (x7).toNatClampNeg) / (10 : Int32)), .int ((x6 / (3 : Int32)) - (x6 / (3 : Int32)) / (8 : Int32) * (8 : Int32))] μ (fun r2 μ1 => (¬ (3 : Int32) = 0 ∧ ((((μ.1 97 (x7).toNatClampNeg) - (μ.1 97 (x7).toNatClampNeg) / (10 : Int32) * (10 : Int32)) = (x6 - x6 / (3 : Int32) * (3 : Int32)) → wm_Wp 0 299 196 [.ref 89, .null, .null, .int x3, .null, .int (x5 + (r2 + (0 : Int32))), .null, .int x7, .int ((μ.1 97 (x7).toNatClampNeg) / (10 : Int32)), .int ((μ.1 97 (x7).toNatClampNeg) - (μ.1 97 (x7).toNatClampNeg) / (10 : Int32) * (10 : Int32)), .int (x6 / (24 : Int32)), .int (((3 : Int32) * (((8 : Int32) * (x6 / (24 : Int32))) + ((μ.1 97 (x7).toNatClampNeg) / (10 : Int32)))) + ((μ.1 97 (x7).toNatClampNeg) - (μ.1 97 (x7).toNatClampNeg) / (10 : Int32) * (10 : Int32))), .int (0 : Int32)] μ1 Q) ∧ (¬ ((μ.1 97 (x7).toNatClampNeg) - (μ.1 97 (x7).toNatClampNeg) / (10 : Int32) * (10 : Int32)) = (x6 - x6 / (3 : Int32) * (3 : Int32)) → wm_Wp 0 299 196 [.ref 89, .null, .null, .int x3, .null, .int (x5 + (r2 + x3)), .null, .int x7, .int ((μ.1 97 (x7).toNatClampNeg) / (10 : Int32)), .int ((μ.1 97 (x7).toNatClampNeg) - (μ.1 97 (x7).toNatClampNeg) / (10 : Int32) * (10 : Int32)), .int (x6 / (24 : Int32)), .int (((3 : Int32) * (((8 : Int32) * (x6 / (24 : Int32))) + ((μ.1 97 (x7).toNatClampNeg) / (10 : Int32)))) + ((μ.1 97 (x7).toNatClampNeg) - (μ.1 97 (x7).toNatClampNeg) / (10 : Int32) * (10 : Int32))), .int (0 : Int32)] μ1 Q)))))))))))))) : wm_Wp 0 299 110 [.ref 89, .null, .null, .int x3, .null, .int x5, .int x6, .int x7, .null, .null, .null, .null, .null] μ Q := f_299_110 x3 x5 x6 x7 μ Q ⟨fun c11 => (h.1 c11), fun c11 => ⟨(h.2 c11).1, ⟨(h.2 c11).2.1, ⟨(h.2 c11).2.2.1, ⟨(h.2 c11).2.2.2.1, (f_299_139 x3 x5 x6 x7 ((μ.1 97 (x7).toNatClampNeg) / (10 : Int32)) ((μ.1 97 (x7).toNatClampNeg) - (μ.1 97 (x7).toNatClampNeg) / (10 : Int32) * (10 : Int32)) μ Q ⟨(h.2 c11).2.2.2.2.1, ⟨(h.2 c11).2.2.2.2.2.1, ⟨(h.2 c11).2.2.2.2.2.2.1, (wm_OkI.mono (h.2 c11).2.2.2.2.2.2.2 (fun r2 μ1 h3 => ⟨h3.1, ⟨fun c1 => (f_299_193 x3 (x5 + (r2 + (0 : Int32))) x7 ((μ.1 97 (x7).toNatClampNeg) / (10 : Int32)) ((μ.1 97 (x7).toNatClampNeg) - (μ.1 97 (x7).toNatClampNeg) / (10 : Int32) * (10 : Int32)) (x6 / (24 : Int32)) (((3 : Int32) * (((8 : Int32) * (x6 / (24 : Int32))) + ((μ.1 97 (x7).toNatClampNeg) / (10 : Int32)))) + ((μ.1 97 (x7).toNatClampNeg) - (μ.1 97 (x7).toNatClampNeg) / (10 : Int32) * (10 : Int32))) μ1 Q (h3.2.1 c1)), fun c1 => (f_299_193 x3 (x5 + (r2 + x3)) x7 ((μ.1 97 (x7).toNatClampNeg) / (10 : Int32)) ((μ.1 97 (x7).toNatClampNeg) - (μ.1 97 (x7).toNatClampNeg) / (10 : Int32) * (10 : Int32)) (x6 / (24 : Int32)) (((3 : Int32) * (((8 : Int32) * (x6 / (24 : Int32))) + ((μ.1 97 (x7).toNatClampNeg) / (10 : Int32)))) + ((μ.1 97 (x7).toNatClampNeg) - (μ.1 97 (x7).toNatClampNeg) / (10 : Int32) * (10 : Int32))) μ1 Q (h3.2.2 c1))⟩⟩))⟩⟩⟩)⟩⟩⟩⟩⟩
-- .. at 196
set_option maxRecDepth 100000 in
theorem w_299_196 (x3 : Int32) (x5 : Int32) (x7 : Int32) (x8 : Int32) (x9 : Int32) (x10 : Int32) (x11 : Int32) (x12 : Int32) (μ : wm_M) (Q : Option Value → wm_M → Prop) (h : ((x12 = (0 : Int32) → (((120 : Int32) ≤ x5 → wm_Wp 0 299 242 [.ref 89, .null, .null, .int x3, .null, .int x5, .null, .int x7, .int x8, .int x9, .int x10, .null, .int x12] μ Q) ∧ (¬ (120 : Int32) ≤ x5 → wm_OkI 0 192 [.int x5] μ (fun r2 μ1 => wm_OkI 0 249 [.ref 89, .int (6 : Int32), .int (1 : Int32), .int x11, .int r2] μ1 (fun r4 μ3 => ((r4 = (0 : Int32) → wm_Wp 0 299 196 [.ref 89, .null, .null, .int x3, .null, .int (x5 + (1 : Int32)), .null, .int x7, .int x8, .int x9, .int x10, .int x11, .int r4] μ3 Q) ∧ (¬ r4 = (0 : Int32) → wm_Wp 0 299 196 [.ref 89, .null, .null, .int x3, .null, .int (x5 + (0 : Int32)), .null, .int x7, .int x8, .int x9, .int x10, .int x11, .int r4] μ3 Q))))))) ∧ (¬ x12 = (0 : Int32) → wm_Wp 0 299 242 [.ref 89, .null, .null, .int x3, .null, .int x5, .null, .int x7, .int x8, .int x9, .int x10, .null, .int x12] μ Q))) : wm_Wp 0 299 196 [.ref 89, .null, .null, .int x3, .null, .int x5, .null, .int x7, .int x8, .int x9, .int x10, .int x11, .int x12] μ Q := f_299_196 x3 x5 x7 x8 x9 x10 x11 x12 μ Q ⟨fun c4 => ⟨fun c3 => ((h.1 c4).1 c3), fun c3 => (wm_OkI.mono ((h.1 c4).2 c3) (fun r2 μ1 h2 => (wm_OkI.mono h2 (fun r4 μ3 h1 => (f_299_224 x3 x5 x7 x8 x9 x10 x11 r4 μ3 Q h1)))))⟩, fun c4 => (h.2 c4)⟩
-- .. at 242
set_option maxRecDepth 100000 in
theorem w_299_242 (x3 : Int32) (x5 : Int32) (x7 : Int32) (x8 : Int32) (x9 : Int32) (x10 : Int32) (x12 : Int32) (μ : wm_M) (Q : Option Value → wm_M → Prop) (h : ((x12 = (0 : Int32) → wm_Wp 0 299 257 [.null, .null, .null, .null, .null, .null, .null, .null, .null, .null, .null, .null, .null] μ Q) ∧ (¬ x12 = (0 : Int32) → (((x5 + x12) ≤ (120 : Int32) → wm_Wp 0 299 261 [.ref 89, .null, .null, .int x3, .null, .int x5, .null, .int x7, .int x8, .int x9, .int x10, .null, .int x12] μ Q) ∧ (¬ (x5 + x12) ≤ (120 : Int32) → wm_Wp 0 299 257 [.null, .null, .null, .null, .null, .null, .null, .null, .null, .null, .null, .null, .null] μ Q))))) : wm_Wp 0 299 242 [.ref 89, .null, .null, .int x3, .null, .int x5, .null, .int x7, .int x8, .int x9, .int x10, .null, .int x12] μ Q := f_299_242 x3 x5 x7 x8 x9 x10 x12 μ Q h
-- .. at 257
set_option maxRecDepth 100000 in
theorem w_299_257 (μ : wm_M) (Q : Option Value → wm_M → Prop) (h : Q (some (.int (999 : Int32))) μ) : wm_Wp 0 299 257 [.null, .null, .null, .null, .null, .null, .null, .null, .null, .null, .null, .null, .null] μ Q := f_299_257  μ Q h
-- .. at 261
set_option maxRecDepth 100000 in
theorem w_299_261 (x3 : Int32) (x5 : Int32) (x7 : Int32) (x8 : Int32) (x9 : Int32) (x10 : Int32) (x12 : Int32) (μ : wm_M) (Q : Option Value → wm_M → Prop) (h : wm_OkI 0 247 [.int x10, .int x8] μ (fun r2 μ1 => wm_Wp 0 299 110 [.ref 89, .null, .null, .int x3, .null, .int (x5 + x12), .int (((3 : Int32) * (((8 : Int32) * r2) + x8)) + x9), .int (x7 + (-1 : Int32)), .null, .null, .null, .null, .null] μ1 Q)) : wm_Wp 0 299 261 [.ref 89, .null, .null, .int x3, .null, .int x5, .null, .int x7, .int x8, .int x9, .int x10, .null, .int x12] μ Q := f_299_261 x3 x5 x7 x8 x9 x10 x12 μ Q (wm_OkI.mono h (fun r2 μ1 h1 => (f_299_288 x3 (x5 + x12) (((3 : Int32) * (((8 : Int32) * r2) + x8)) + x9) x7 μ1 Q h1)))
-- .. at 294
set_option maxRecDepth 100000 in
theorem w_299_294 (x5 : Int32) (μ : wm_M) (Q : Option Value → wm_M → Prop) (h : Q (some (.int x5)) μ) : wm_Wp 0 299 294 [.null, .null, .null, .null, .null, .int x5, .null, .null, .null, .null, .null, .null, .null] μ Q := f_299_294 x5 μ Q h
-- WindBoatModel.shareOf(I)I
set_option maxRecDepth 100000 in
theorem v_300 (a1 : Int32) (μ : wm_M) (Q : Option Value → wm_M → Prop) (h : (¬ (3 : Int32) = 0 ∧ (¬ (3 : Int32) = 0 ∧ (vp_in (0 : Int32) 8 ∧ (vp_in ((1 : Int32) <<< (a1 &&& 31)) 8 ∧ (vp_in ((1 : Int32) <<< (((a1 + (1 : Int32)) - (a1 + (1 : Int32)) / (3 : Int32) * (3 : Int32)) &&& 31)) 8 ∧ (vp_in (((1 : Int32) <<< (((a1 + (1 : Int32)) - (a1 + (1 : Int32)) / (3 : Int32) * (3 : Int32)) &&& 31)) ||| ((1 : Int32) <<< (a1 &&& 31))) 8 ∧ (vp_in ((1 : Int32) <<< (((a1 + (2 : Int32)) - (a1 + (2 : Int32)) / (3 : Int32) * (3 : Int32)) &&& 31)) 8 ∧ (vp_in (((1 : Int32) <<< (((a1 + (2 : Int32)) - (a1 + (2 : Int32)) / (3 : Int32) * (3 : Int32)) &&& 31)) ||| ((1 : Int32) <<< (a1 &&& 31))) 8 ∧ (vp_in (((1 : Int32) <<< (((a1 + (1 : Int32)) - (a1 + (1 : Int32)) / (3 : Int32) * (3 : Int32)) &&& 31)) ||| ((1 : Int32) <<< (((a1 + (2 : Int32)) - (a1 + (2 : Int32)) / (3 : Int32) * (3 : Int32)) &&& 31))) 8 ∧ (vp_in (7 : Int32) 8 ∧ Q (some (.int (((((((2 : Int32) * ((μ.1 109 ((0 : Int32)).toNatClampNeg) - (μ.1 109 (((1 : Int32) <<< (a1 &&& 31))).toNatClampNeg))) + (μ.1 109 (((1 : Int32) <<< (((a1 + (1 : Int32)) - (a1 + (1 : Int32)) / (3 : Int32) * (3 : Int32)) &&& 31))).toNatClampNeg)) - (μ.1 109 ((((1 : Int32) <<< (((a1 + (1 : Int32)) - (a1 + (1 : Int32)) / (3 : Int32) * (3 : Int32)) &&& 31)) ||| ((1 : Int32) <<< (a1 &&& 31)))).toNatClampNeg)) + (μ.1 109 (((1 : Int32) <<< (((a1 + (2 : Int32)) - (a1 + (2 : Int32)) / (3 : Int32) * (3 : Int32)) &&& 31))).toNatClampNeg)) - (μ.1 109 ((((1 : Int32) <<< (((a1 + (2 : Int32)) - (a1 + (2 : Int32)) / (3 : Int32) * (3 : Int32)) &&& 31)) ||| ((1 : Int32) <<< (a1 &&& 31)))).toNatClampNeg)) + ((2 : Int32) * ((μ.1 109 ((((1 : Int32) <<< (((a1 + (1 : Int32)) - (a1 + (1 : Int32)) / (3 : Int32) * (3 : Int32)) &&& 31)) ||| ((1 : Int32) <<< (((a1 + (2 : Int32)) - (a1 + (2 : Int32)) / (3 : Int32) * (3 : Int32)) &&& 31)))).toNatClampNeg) - (μ.1 109 ((7 : Int32)).toNatClampNeg)))))) μ))))))))))) : wm_Ok 0 300 [.ref 89, .int a1] μ Q := f_300 a1 μ Q ⟨h.1, ⟨h.2.1, (f_300_16 a1 ((1 : Int32) <<< (((a1 + (1 : Int32)) - (a1 + (1 : Int32)) / (3 : Int32) * (3 : Int32)) &&& 31)) ((1 : Int32) <<< (((a1 + (2 : Int32)) - (a1 + (2 : Int32)) / (3 : Int32) * (3 : Int32)) &&& 31)) μ Q h.2.2)⟩⟩
-- WindBoatModel.lost(II)I
set_option maxRecDepth 100000 in
theorem v_301 (a1 : Int32) (a2 : Int32) (μ : wm_M) (Q : Option Value → wm_M → Prop) (h : wm_OkI 0 188 [.ref 89, .int (6 : Int32)] μ (fun r2 μ1 => ((r2 = (0 : Int32) → wm_OkI 0 185 [.ref 89, .int (-2 : Int32)] μ1 (fun r4 μ3 => Q (some (.int r4)) μ3)) ∧ (¬ r2 = (0 : Int32) → wm_Wp 0 301 16 [.ref 89, .int a1, .int a2, .null] μ1 Q)))) : wm_Ok 0 301 [.ref 89, .int a1, .int a2] μ Q := f_301 a1 a2 μ Q (wm_OkI.mono h (fun r2 μ1 h2 => ⟨fun c1 => (f_301_9  μ1 Q (h2.1 c1)), fun c1 => (h2.2 c1)⟩))
-- .. at 16
set_option maxRecDepth 100000 in
theorem w_301_16 (x1 : Int32) (x2 : Int32) (μ : wm_M) (Q : Option Value → wm_M → Prop) (h : wm_OkI 0 262 [.int x1] μ (fun r2 μ1 => ((r2 = (0 : Int32) → wm_OkI 0 185 [.ref 89, .int (-3 : Int32)] μ1 (fun r4 μ3 => Q (some (.int r4)) μ3)) ∧ (¬ r2 = (0 : Int32) → wm_Wp 0 301 30 [.ref 89, .int x1, .int x2, .null] μ1 Q)))) : wm_Wp 0 301 16 [.ref 89, .int x1, .int x2, .null] μ Q := f_301_16 x1 x2 μ Q (wm_OkI.mono h (fun r2 μ1 h2 => ⟨fun c1 => (f_301_23  μ1 Q (h2.1 c1)), fun c1 => (h2.2 c1)⟩))
-- .. at 30
set_option maxRecDepth 100000 in
theorem w_301_30 (x1 : Int32) (x2 : Int32) (μ : wm_M) (Q : Option Value → wm_M → Prop) (h : wm_OkI 0 184 [.int x2, .int (0 : Int32), .int (4 : Int32)] μ (fun r2 μ1 => ((r2 = (0 : Int32) → wm_OkI 0 185 [.ref 89, .int (-7 : Int32)] μ1 (fun r4 μ3 => Q (some (.int r4)) μ3)) ∧ (¬ r2 = (0 : Int32) → wm_Wp 0 301 46 [.ref 89, .int x1, .int x2, .null] μ1 Q)))) : wm_Wp 0 301 30 [.ref 89, .int x1, .int x2, .null] μ Q := f_301_30 x1 x2 μ Q (wm_OkI.mono h (fun r2 μ1 h2 => ⟨fun c1 => (f_301_39  μ1 Q (h2.1 c1)), fun c1 => (h2.2 c1)⟩))
-- .. at 46
set_option maxRecDepth 100000 in
theorem w_301_46 (x1 : Int32) (x2 : Int32) (μ : wm_M) (Q : Option Value → wm_M → Prop) (h : wm_OkI 0 188 [.ref 89, .int (12 : Int32)] μ (fun r2 μ1 => wm_OkV 0 246 [.ref 89, .int r2] μ1 (fun μ3 => wm_Wp 0 301 58 [.ref 89, .int x1, .int x2, .int (0 : Int32)] μ3 Q))) : wm_Wp 0 301 46 [.ref 89, .int x1, .int x2, .null] μ Q := f_301_46 x1 x2 μ Q (wm_OkI.mono h (fun r2 μ1 h2 => (wm_OkV.mono h2 (fun μ3 h1 => (f_301_56 x1 x2 μ3 Q h1)))))
-- .. at 58
set_option maxRecDepth 100000 in
theorem w_301_58 (x1 : Int32) (x2 : Int32) (x3 : Int32) (μ : wm_M) (Q : Option Value → wm_M → Prop) (h : (((8 : Int32) ≤ x3 → wm_Wp 0 301 82 [.ref 89, .null, .int x2, .null] μ Q) ∧ (¬ (8 : Int32) ≤ x3 → wm_OkI 0 299 [.ref 89, .int x1, .int x3] μ (fun r2 μ1 => (vp_in x3 8 ∧ wm_Wp 0 301 58 [.ref 89, .int x1, .int x2, .int (x3 + (1 : Int32))] (wm_si μ1 109 (x3).toNatClampNeg r2) Q))))) : wm_Wp 0 301 58 [.ref 89, .int x1, .int x2, .int x3] μ Q := f_301_58 x1 x2 x3 μ Q ⟨fun c3 => (h.1 c3), fun c3 => (wm_OkI.mono (h.2 c3) (fun r2 μ1 h2 => ⟨h2.1, (f_301_76 x1 x2 x3 (wm_si μ1 109 (x3).toNatClampNeg r2) Q h2.2)⟩))⟩
-- .. at 82
set_option maxRecDepth 100000 in
theorem w_301_82 (x2 : Int32) (μ : wm_M) (Q : Option Value → wm_M → Prop) (h : ((x2 = (3 : Int32) → (vp_in (0 : Int32) 8 ∧ Q (some (.int (μ.1 109 ((0 : Int32)).toNatClampNeg))) μ)) ∧ (¬ x2 = (3 : Int32) → wm_Wp 0 301 96 [.ref 89, .null, .int x2, .null] μ Q))) : wm_Wp 0 301 82 [.ref 89, .null, .int x2, .null] μ Q := f_301_82 x2 μ Q h
-- .. at 96
set_option maxRecDepth 100000 in
theorem w_301_96 (x2 : Int32) (μ : wm_M) (Q : Option Value → wm_M → Prop) (h : ((x2 = (4 : Int32) → (vp_in (7 : Int32) 8 ∧ Q (some (.int (μ.1 109 ((7 : Int32)).toNatClampNeg))) μ)) ∧ (¬ x2 = (4 : Int32) → wm_Wp 0 301 111 [.ref 89, .null, .int x2, .null] μ Q))) : wm_Wp 0 301 96 [.ref 89, .null, .int x2, .null] μ Q := f_301_96 x2 μ Q h
-- .. at 111
set_option maxRecDepth 100000 in
theorem w_301_111 (x2 : Int32) (μ : wm_M) (Q : Option Value → wm_M → Prop) (h : wm_OkI 0 300 [.ref 89, .int x2] μ (fun r2 μ1 => Q (some (.int r2)) μ1)) : wm_Wp 0 301 111 [.ref 89, .null, .int x2, .null] μ Q := f_301_111 x2 μ Q h
-- WindBoatModel.count(I)I
set_option maxRecDepth 100000 in
theorem v_302 (a1 : Int32) (μ : wm_M) (Q : Option Value → wm_M → Prop) (h : (((a1).toInt < 0 ∨ 11 < (a1).toInt → wm_Wp 0 302 256 [.ref 89, .null, .null, .null] μ Q) ∧ (((a1).toInt = 0 → wm_Wp 0 302 64 [.ref 89, .null, .int (0 : Int32), .null] μ Q) ∧ (((a1).toInt = 1 → wm_Wp 0 302 91 [.ref 89, .null, .int (0 : Int32), .null] μ Q) ∧ (((a1).toInt = 2 → wm_Wp 0 302 120 [.ref 89, .null, .null, .null] μ Q) ∧ (((a1).toInt = 3 → wm_Wp 0 302 126 [.ref 89, .null, .int (0 : Int32), .null] μ Q) ∧ (((a1).toInt = 4 → wm_Wp 0 302 158 [.ref 89, .null, .null, .null] μ Q) ∧ (((a1).toInt = 5 → wm_Wp 0 302 164 [.ref 89, .null, .null, .null] μ Q) ∧ (((a1).toInt = 6 → wm_Wp 0 302 170 [.ref 89, .null, .null, .null] μ Q) ∧ (((a1).toInt = 7 → wm_Wp 0 302 175 [.ref 89, .null, .int (0 : Int32), .null] μ Q) ∧ (((a1).toInt = 8 → wm_Wp 0 302 204 [.ref 89, .null, .int (0 : Int32), .null] μ Q) ∧ (((a1).toInt = 9 → wm_Wp 0 302 236 [.ref 89, .null, .null, .null] μ Q) ∧ (((a1).toInt = 10 → wm_Wp 0 302 243 [.ref 89, .null, .null, .null] μ Q) ∧ (((a1).toInt = 11 → wm_Wp 0 302 249 [.ref 89, .null, .null, .null] μ Q) ∧ True)))))))))))))) : wm_Ok 0 302 [.ref 89, .int a1] μ Q := f_302 a1 μ Q h
-- .. at 64
set_option maxRecDepth 100000 in
theorem w_302_64 (x2 : Int32) (μ : wm_M) (Q : Option Value → wm_M → Prop) (h : wm_Wp 0 302 66 [.ref 89, .null, .int x2, .int (0 : Int32)] μ Q) : wm_Wp 0 302 64 [.ref 89, .null, .int x2, .null] μ Q := f_302_64 x2 μ Q h
-- .. at 66
set_option maxRecDepth 100000 in
theorem w_302_66 (x2 : Int32) (x3 : Int32) (μ : wm_M) (Q : Option Value → wm_M → Prop) (h : (((36 : Int32) ≤ x3 → wm_Wp 0 302 89 [.null, .null, .int x2, .null] μ Q) ∧ (¬ (36 : Int32) ≤ x3 → (vp_in ((0 : Int32) + x3) 2060 ∧ wm_Wp 0 302 66 [.ref 89, .null, .int (x2 + (μ.1 91 (((0 : Int32) + x3)).toNatClampNeg)), .int (x3 + (1 : Int32))] μ Q)))) : wm_Wp 0 302 66 [.ref 89, .null, .int x2, .int x3] μ Q := f_302_66 x2 x3 μ Q ⟨fun c2 => (h.1 c2), fun c2 => ⟨(h.2 c2).1, (f_302_83 (x2 + (μ.1 91 (((0 : Int32) + x3)).toNatClampNeg)) x3 μ Q (h.2 c2).2)⟩⟩
-- .. at 89
set_option maxRecDepth 100000 in
theorem w_302_89 (x2 : Int32) (μ : wm_M) (Q : Option Value → wm_M → Prop) (h : Q (some (.int x2)) μ) : wm_Wp 0 302 89 [.null, .null, .int x2, .null] μ Q := f_302_89 x2 μ Q h
-- .. at 91
set_option maxRecDepth 100000 in
theorem w_302_91 (x2 : Int32) (μ : wm_M) (Q : Option Value → wm_M → Prop) (h : wm_Wp 0 302 93 [.ref 89, .null, .int x2, .int (0 : Int32)] μ Q) : wm_Wp 0 302 91 [.ref 89, .null, .int x2, .null] μ Q := f_302_91 x2 μ Q h
-- .. at 93
set_option maxRecDepth 100000 in
theorem w_302_93 (x2 : Int32) (x3 : Int32) (μ : wm_M) (Q : Option Value → wm_M → Prop) (h : (((84 : Int32) ≤ x3 → wm_Wp 0 302 118 [.null, .null, .int x2, .null] μ Q) ∧ (¬ (84 : Int32) ≤ x3 → (vp_in ((240 : Int32) + x3) 2060 ∧ wm_Wp 0 302 93 [.ref 89, .null, .int (x2 + (μ.1 91 (((240 : Int32) + x3)).toNatClampNeg)), .int (x3 + (1 : Int32))] μ Q)))) : wm_Wp 0 302 93 [.ref 89, .null, .int x2, .int x3] μ Q := f_302_93 x2 x3 μ Q ⟨fun c2 => (h.1 c2), fun c2 => ⟨(h.2 c2).1, (f_302_112 (x2 + (μ.1 91 (((240 : Int32) + x3)).toNatClampNeg)) x3 μ Q (h.2 c2).2)⟩⟩
-- .. at 118
set_option maxRecDepth 100000 in
theorem w_302_118 (x2 : Int32) (μ : wm_M) (Q : Option Value → wm_M → Prop) (h : Q (some (.int x2)) μ) : wm_Wp 0 302 118 [.null, .null, .int x2, .null] μ Q := f_302_118 x2 μ Q h
-- .. at 120
set_option maxRecDepth 100000 in
theorem w_302_120 (μ : wm_M) (Q : Option Value → wm_M → Prop) (h : wm_OkI 0 188 [.ref 89, .int (0 : Int32)] μ (fun r2 μ1 => Q (some (.int r2)) μ1)) : wm_Wp 0 302 120 [.ref 89, .null, .null, .null] μ Q := f_302_120  μ Q h
-- .. at 126
set_option maxRecDepth 100000 in
theorem w_302_126 (x2 : Int32) (μ : wm_M) (Q : Option Value → wm_M → Prop) (h : wm_Wp 0 302 128 [.ref 89, .null, .int x2, .int (0 : Int32)] μ Q) : wm_Wp 0 302 126 [.ref 89, .null, .int x2, .null] μ Q := f_302_126 x2 μ Q h
-- .. at 128
set_option maxRecDepth 100000 in
theorem w_302_128 (x2 : Int32) (x3 : Int32) (μ : wm_M) (Q : Option Value → wm_M → Prop) (h : wm_OkI 0 188 [.ref 89, .int (0 : Int32)] μ (fun r2 μ1 => ((r2 ≤ x3 → wm_Wp 0 302 156 [.null, .null, .int x2, .null] μ1 Q) ∧ (¬ r2 ≤ x3 → (vp_in ((452 : Int32) + x3) 2060 ∧ wm_Wp 0 302 128 [.ref 89, .null, .int (x2 + (μ1.1 91 (((452 : Int32) + x3)).toNatClampNeg)), .int (x3 + (1 : Int32))] μ1 Q))))) : wm_Wp 0 302 128 [.ref 89, .null, .int x2, .int x3] μ Q := f_302_128 x2 x3 μ Q (wm_OkI.mono h (fun r2 μ1 h2 => ⟨fun c1 => (h2.1 c1), fun c1 => (f_302_137 x2 x3 μ1 Q (h2.2 c1))⟩))
-- .. at 156
set_option maxRecDepth 100000 in
theorem w_302_156 (x2 : Int32) (μ : wm_M) (Q : Option Value → wm_M → Prop) (h : Q (some (.int x2)) μ) : wm_Wp 0 302 156 [.null, .null, .int x2, .null] μ Q := f_302_156 x2 μ Q h
-- .. at 158
set_option maxRecDepth 100000 in
theorem w_302_158 (μ : wm_M) (Q : Option Value → wm_M → Prop) (h : wm_OkI 0 188 [.ref 89, .int (1 : Int32)] μ (fun r2 μ1 => Q (some (.int r2)) μ1)) : wm_Wp 0 302 158 [.ref 89, .null, .null, .null] μ Q := f_302_158  μ Q h
-- .. at 164
set_option maxRecDepth 100000 in
theorem w_302_164 (μ : wm_M) (Q : Option Value → wm_M → Prop) (h : wm_OkI 0 188 [.ref 89, .int (2 : Int32)] μ (fun r2 μ1 => Q (some (.int r2)) μ1)) : wm_Wp 0 302 164 [.ref 89, .null, .null, .null] μ Q := f_302_164  μ Q h
-- .. at 170
set_option maxRecDepth 100000 in
theorem w_302_170 (μ : wm_M) (Q : Option Value → wm_M → Prop) (h : Q (some (.int (μ.1 89 4))) μ) : wm_Wp 0 302 170 [.ref 89, .null, .null, .null] μ Q := f_302_170  μ Q h
-- .. at 175
set_option maxRecDepth 100000 in
theorem w_302_175 (x2 : Int32) (μ : wm_M) (Q : Option Value → wm_M → Prop) (h : wm_Wp 0 302 177 [.ref 89, .null, .int x2, .int (0 : Int32)] μ Q) : wm_Wp 0 302 175 [.ref 89, .null, .int x2, .null] μ Q := f_302_175 x2 μ Q h
-- .. at 177
set_option maxRecDepth 100000 in
theorem w_302_177 (x2 : Int32) (x3 : Int32) (μ : wm_M) (Q : Option Value → wm_M → Prop) (h : (((25 : Int32) ≤ x3 → wm_Wp 0 302 202 [.null, .null, .int x2, .null] μ Q) ∧ (¬ (25 : Int32) ≤ x3 → (vp_in ((349 : Int32) + x3) 2060 ∧ wm_Wp 0 302 177 [.ref 89, .null, .int (x2 + (μ.1 91 (((349 : Int32) + x3)).toNatClampNeg)), .int (x3 + (1 : Int32))] μ Q)))) : wm_Wp 0 302 177 [.ref 89, .null, .int x2, .int x3] μ Q := f_302_177 x2 x3 μ Q ⟨fun c2 => (h.1 c2), fun c2 => ⟨(h.2 c2).1, (f_302_196 (x2 + (μ.1 91 (((349 : Int32) + x3)).toNatClampNeg)) x3 μ Q (h.2 c2).2)⟩⟩
-- .. at 202
set_option maxRecDepth 100000 in
theorem w_302_202 (x2 : Int32) (μ : wm_M) (Q : Option Value → wm_M → Prop) (h : Q (some (.int x2)) μ) : wm_Wp 0 302 202 [.null, .null, .int x2, .null] μ Q := f_302_202 x2 μ Q h
-- .. at 204
set_option maxRecDepth 100000 in
theorem w_302_204 (x2 : Int32) (μ : wm_M) (Q : Option Value → wm_M → Prop) (h : wm_Wp 0 302 206 [.ref 89, .null, .int x2, .int (0 : Int32)] μ Q) : wm_Wp 0 302 204 [.ref 89, .null, .int x2, .null] μ Q := f_302_204 x2 μ Q h
-- .. at 206
set_option maxRecDepth 100000 in
theorem w_302_206 (x2 : Int32) (x3 : Int32) (μ : wm_M) (Q : Option Value → wm_M → Prop) (h : (((6 : Int32) ≤ x3 → wm_Wp 0 302 234 [.null, .null, .int x2, .null] μ Q) ∧ (¬ (6 : Int32) ≤ x3 → wm_OkI 0 266 [.ref 89, .int x3] μ (fun r2 μ1 => ((r2 = (0 : Int32) → wm_Wp 0 302 206 [.ref 89, .null, .int (x2 + (0 : Int32)), .int (x3 + (1 : Int32))] μ1 Q) ∧ (¬ r2 = (0 : Int32) → wm_Wp 0 302 206 [.ref 89, .null, .int (x2 + (1 : Int32)), .int (x3 + (1 : Int32))] μ1 Q)))))) : wm_Wp 0 302 206 [.ref 89, .null, .int x2, .int x3] μ Q := f_302_206 x2 x3 μ Q h
-- .. at 234
set_option maxRecDepth 100000 in
theorem w_302_234 (x2 : Int32) (μ : wm_M) (Q : Option Value → wm_M → Prop) (h : Q (some (.int x2)) μ) : wm_Wp 0 302 234 [.null, .null, .int x2, .null] μ Q := f_302_234 x2 μ Q h
-- .. at 236
set_option maxRecDepth 100000 in
theorem w_302_236 (μ : wm_M) (Q : Option Value → wm_M → Prop) (h : wm_OkI 0 188 [.ref 89, .int (13 : Int32)] μ (fun r2 μ1 => Q (some (.int r2)) μ1)) : wm_Wp 0 302 236 [.ref 89, .null, .null, .null] μ Q := f_302_236  μ Q h
-- .. at 243
set_option maxRecDepth 100000 in
theorem w_302_243 (μ : wm_M) (Q : Option Value → wm_M → Prop) (h : wm_OkI 0 188 [.ref 89, .int (5 : Int32)] μ (fun r2 μ1 => Q (some (.int r2)) μ1)) : wm_Wp 0 302 243 [.ref 89, .null, .null, .null] μ Q := f_302_243  μ Q h
-- .. at 249
set_option maxRecDepth 100000 in
theorem w_302_249 (μ : wm_M) (Q : Option Value → wm_M → Prop) (h : wm_OkI 0 188 [.ref 89, .int (6 : Int32)] μ (fun r2 μ1 => Q (some (.int r2)) μ1)) : wm_Wp 0 302 249 [.ref 89, .null, .null, .null] μ Q := f_302_249  μ Q h
-- .. at 256
set_option maxRecDepth 100000 in
theorem w_302_256 (μ : wm_M) (Q : Option Value → wm_M → Prop) (h : wm_OkI 0 186 [.ref 89, .int (-7 : Int32)] μ (fun r2 μ1 => Q (some (.int r2)) μ1)) : wm_Wp 0 302 256 [.ref 89, .null, .null, .null] μ Q := f_302_256  μ Q h
-- WindBoatModel.image()I
set_option maxRecDepth 100000 in
theorem v_303 (μ : wm_M) (Q : Option Value → wm_M → Prop) (h : wm_Wp 0 303 2 [.ref 89, .int (0 : Int32)] μ Q) : wm_Ok 0 303 [.ref 89] μ Q := f_303  μ Q h
-- .. at 2
set_option maxRecDepth 100000 in
theorem w_303_2 (x1 : Int32) (μ : wm_M) (Q : Option Value → wm_M → Prop) (h : (((2060 : Int32) ≤ x1 → wm_Wp 0 303 27 [.ref 89, .null] μ Q) ∧ (¬ (2060 : Int32) ≤ x1 → (vp_in x1 2060 ∧ (vp_in x1 2060 ∧ wm_Wp 0 303 2 [.ref 89, .int (x1 + (1 : Int32))] (wm_si μ 110 (x1).toNatClampNeg (μ.1 91 (x1).toNatClampNeg)) Q))))) : wm_Wp 0 303 2 [.ref 89, .int x1] μ Q := f_303_2 x1 μ Q ⟨fun c3 => (h.1 c3), fun c3 => ⟨(h.2 c3).1, ⟨(h.2 c3).2.1, (f_303_21 x1 (wm_si μ 110 (x1).toNatClampNeg (μ.1 91 (x1).toNatClampNeg)) Q (h.2 c3).2.2)⟩⟩⟩
-- .. at 27
set_option maxRecDepth 100000 in
theorem w_303_27 (μ : wm_M) (Q : Option Value → wm_M → Prop) (h : (((1 : Int32) = 0 ∨ (1 : Int32) = 1) ∧ wm_OkI 0 188 [.ref 89, .int (6 : Int32)] (wm_si μ 89 46 (1 : Int32)) (fun r2 μ1 => ((r2 = (1 : Int32) → wm_OkI 0 188 [.ref 89, .int (10 : Int32)] μ1 (fun r4 μ3 => Q (some (.int r4)) μ3)) ∧ (¬ r2 = (1 : Int32) → wm_Wp 0 303 51 [.null, .null] μ1 Q))))) : wm_Wp 0 303 27 [.ref 89, .null] μ Q := f_303_27  μ Q ⟨h.1, (f_303_32  (wm_si μ 89 46 (1 : Int32)) Q (wm_OkI.mono h.2 (fun r2 μ1 h2 => ⟨fun c1 => (f_303_42  μ1 Q (h2.1 c1)), fun c1 => (h2.2 c1)⟩)))⟩
-- .. at 51
set_option maxRecDepth 100000 in
theorem w_303_51 (μ : wm_M) (Q : Option Value → wm_M → Prop) (h : Q (some (.int (0 : Int32))) μ) : wm_Wp 0 303 51 [.null, .null] μ Q := f_303_51  μ Q h
-- WindBoatModel.back()I
set_option maxRecDepth 100000 in
theorem v_304 (μ : wm_M) (Q : Option Value → wm_M → Prop) (h : (((μ.1 89 46) = (0 : Int32) → wm_OkI 0 185 [.ref 89, .int (-2 : Int32)] μ (fun r2 μ1 => Q (some (.int r2)) μ1)) ∧ (¬ (μ.1 89 46) = (0 : Int32) → wm_Wp 0 304 14 [.ref 89, .null] μ Q))) : wm_Ok 0 304 [.ref 89] μ Q := f_304  μ Q h
-- .. at 14
set_option maxRecDepth 100000 in
theorem w_304_14 (μ : wm_M) (Q : Option Value → wm_M → Prop) (h : wm_Wp 0 304 16 [.ref 89, .int (0 : Int32)] μ Q) : wm_Wp 0 304 14 [.ref 89, .null] μ Q := f_304_14  μ Q h
-- .. at 16
set_option maxRecDepth 100000 in
theorem w_304_16 (x1 : Int32) (μ : wm_M) (Q : Option Value → wm_M → Prop) (h : (((2060 : Int32) ≤ x1 → wm_Wp 0 304 41 [.ref 89, .null] μ Q) ∧ (¬ (2060 : Int32) ≤ x1 → (vp_in x1 2060 ∧ (vp_in x1 2060 ∧ wm_Wp 0 304 16 [.ref 89, .int (x1 + (1 : Int32))] (wm_si μ 91 (x1).toNatClampNeg (μ.1 110 (x1).toNatClampNeg)) Q))))) : wm_Wp 0 304 16 [.ref 89, .int x1] μ Q := f_304_16 x1 μ Q ⟨fun c3 => (h.1 c3), fun c3 => ⟨(h.2 c3).1, ⟨(h.2 c3).2.1, (f_304_35 x1 (wm_si μ 91 (x1).toNatClampNeg (μ.1 110 (x1).toNatClampNeg)) Q (h.2 c3).2.2)⟩⟩⟩
-- .. at 41
set_option maxRecDepth 100000 in
theorem w_304_41 (μ : wm_M) (Q : Option Value → wm_M → Prop) (h : wm_OkI 0 188 [.ref 89, .int (6 : Int32)] μ (fun r2 μ1 => ((r2 = (1 : Int32) → wm_OkI 0 188 [.ref 89, .int (10 : Int32)] μ1 (fun r4 μ3 => Q (some (.int r4)) μ3)) ∧ (¬ r2 = (1 : Int32) → wm_Wp 0 304 60 [.null, .null] μ1 Q)))) : wm_Wp 0 304 41 [.ref 89, .null] μ Q := f_304_41  μ Q (wm_OkI.mono h (fun r2 μ1 h2 => ⟨fun c1 => (f_304_51  μ1 Q (h2.1 c1)), fun c1 => (h2.2 c1)⟩))
-- .. at 60
set_option maxRecDepth 100000 in
theorem w_304_60 (μ : wm_M) (Q : Option Value → wm_M → Prop) (h : Q (some (.int (0 : Int32))) μ) : wm_Wp 0 304 60 [.null, .null] μ Q := f_304_60  μ Q h
-- WindBoatModel.lay(I)I
set_option maxRecDepth 100000 in
theorem v_305 (a1 : Int32) (μ : wm_M) (Q : Option Value → wm_M → Prop) (h : (((0 : Int32) ≤ a1 → wm_Wp 0 305 11 [.ref 89, .int a1, .null] μ Q) ∧ (¬ (0 : Int32) ≤ a1 → wm_OkI 0 185 [.ref 89, .int (-4 : Int32)] μ (fun r2 μ1 => Q (some (.int r2)) μ1)))) : wm_Ok 0 305 [.ref 89, .int a1] μ Q := f_305 a1 μ Q h
-- .. at 11
set_option maxRecDepth 100000 in
theorem w_305_11 (x1 : Int32) (μ : wm_M) (Q : Option Value → wm_M → Prop) (h : ((x1 ≤ (12 : Int32) → wm_Wp 0 305 24 [.ref 89, .int x1, .null] μ Q) ∧ (¬ x1 ≤ (12 : Int32) → wm_OkI 0 185 [.ref 89, .int (-7 : Int32)] μ (fun r2 μ1 => Q (some (.int r2)) μ1)))) : wm_Wp 0 305 11 [.ref 89, .int x1, .null] μ Q := f_305_11 x1 μ Q h
-- .. at 24
set_option maxRecDepth 100000 in
theorem w_305_24 (x1 : Int32) (μ : wm_M) (Q : Option Value → wm_M → Prop) (h : wm_Wp 0 305 26 [.ref 89, .int x1, .int (0 : Int32)] μ Q) : wm_Wp 0 305 24 [.ref 89, .int x1, .null] μ Q := f_305_24 x1 μ Q h
-- .. at 26
set_option maxRecDepth 100000 in
theorem w_305_26 (x1 : Int32) (x2 : Int32) (μ : wm_M) (Q : Option Value → wm_M → Prop) (h : (((12 : Int32) ≤ x2 → wm_Wp 0 305 45 [.ref 89, .int x1, .null] μ Q) ∧ (¬ (12 : Int32) ≤ x2 → (vp_in x2 12 ∧ wm_Wp 0 305 26 [.ref 89, .int x1, .int (x2 + (1 : Int32))] (wm_si μ 111 (x2).toNatClampNeg (0 : Int32)) Q)))) : wm_Wp 0 305 26 [.ref 89, .int x1, .int x2] μ Q := f_305_26 x1 x2 μ Q ⟨fun c2 => (h.1 c2), fun c2 => ⟨(h.2 c2).1, (f_305_39 x1 x2 (wm_si μ 111 (x2).toNatClampNeg (0 : Int32)) Q (h.2 c2).2)⟩⟩
-- .. at 45
set_option maxRecDepth 100000 in
theorem w_305_45 (x1 : Int32) (μ : wm_M) (Q : Option Value → wm_M → Prop) (h : (((1 : Int32) = 0 ∨ (1 : Int32) = 1) ∧ Q (some (.int x1)) (wm_si (wm_si μ 89 48 x1) 89 49 (1 : Int32)))) : wm_Wp 0 305 45 [.ref 89, .int x1, .null] μ Q := f_305_45 x1 μ Q (f_305_50 x1 (wm_si μ 89 48 x1) Q ⟨h.1, (f_305_55 x1 (wm_si (wm_si μ 89 48 x1) 89 49 (1 : Int32)) Q h.2)⟩)
-- WindBoatModel.set(II)I
set_option maxRecDepth 100000 in
theorem v_306 (a1 : Int32) (a2 : Int32) (μ : wm_M) (Q : Option Value → wm_M → Prop) (h : (((μ.1 89 49) = (0 : Int32) → wm_OkI 0 186 [.ref 89, .int (-2 : Int32)] μ (fun r2 μ1 => Q (some (.int r2)) μ1)) ∧ (¬ (μ.1 89 49) = (0 : Int32) → wm_Wp 0 306 14 [.ref 89, .int a1, .int a2, .null] μ Q))) : wm_Ok 0 306 [.ref 89, .int a1, .int a2] μ Q := f_306 a1 a2 μ Q h
-- .. at 14
set_option maxRecDepth 100000 in
theorem w_306_14 (x1 : Int32) (x2 : Int32) (μ : wm_M) (Q : Option Value → wm_M → Prop) (h : wm_OkI 0 184 [.int x1, .int (0 : Int32), .int ((μ.1 89 48) - (1 : Int32))] μ (fun r2 μ1 => ((r2 = (0 : Int32) → wm_OkI 0 186 [.ref 89, .int (-3 : Int32)] μ1 (fun r4 μ3 => Q (some (.int r4)) μ3)) ∧ (¬ r2 = (0 : Int32) → wm_Wp 0 306 35 [.ref 89, .int x1, .int x2, .null] μ1 Q)))) : wm_Wp 0 306 14 [.ref 89, .int x1, .int x2, .null] μ Q := f_306_14 x1 x2 μ Q (wm_OkI.mono h (fun r2 μ1 h2 => ⟨fun c1 => (f_306_28  μ1 Q (h2.1 c1)), fun c1 => (h2.2 c1)⟩))
-- .. at 35
set_option maxRecDepth 100000 in
theorem w_306_35 (x1 : Int32) (x2 : Int32) (μ : wm_M) (Q : Option Value → wm_M → Prop) (h : (vp_in x1 12 ∧ (vp_in x1 12 ∧ Q (some (.int (μ.1 111 (x1).toNatClampNeg))) (wm_si μ 111 (x1).toNatClampNeg x2)))) : wm_Wp 0 306 35 [.ref 89, .int x1, .int x2, .null] μ Q := f_306_35 x1 x2 μ Q ⟨h.1, ⟨h.2.1, (f_306_49 (μ.1 111 (x1).toNatClampNeg) (wm_si μ 111 (x1).toNatClampNeg x2) Q h.2.2)⟩⟩
-- WindBoatModel.tear()I
set_option maxRecDepth 100000 in
theorem v_307 (μ : wm_M) (Q : Option Value → wm_M → Prop) (h : (((μ.1 89 49) = (0 : Int32) → wm_Wp 0 307 11 [.ref 89, .null] μ Q) ∧ (¬ (μ.1 89 49) = (0 : Int32) → (((0 : Int32) = 0 ∨ (0 : Int32) = 1) ∧ Q (some (.int (1 : Int32))) (wm_si μ 89 49 (0 : Int32)))))) : wm_Ok 0 307 [.ref 89] μ Q := f_307  μ Q ⟨fun c2 => (h.1 c2), fun c2 => ⟨(h.2 c2).1, (f_307_18 (1 : Int32) (wm_si μ 89 49 (0 : Int32)) Q (h.2 c2).2)⟩⟩
-- .. at 11
set_option maxRecDepth 100000 in
theorem w_307_11 (μ : wm_M) (Q : Option Value → wm_M → Prop) (h : (((0 : Int32) = 0 ∨ (0 : Int32) = 1) ∧ Q (some (.int (0 : Int32))) (wm_si μ 89 49 (0 : Int32)))) : wm_Wp 0 307 11 [.ref 89, .null] μ Q := f_307_11  μ Q ⟨h.1, (f_307_18 (0 : Int32) (wm_si μ 89 49 (0 : Int32)) Q h.2)⟩
-- WindBoatModel.row(I)I
set_option maxRecDepth 100000 in
theorem v_308 (a1 : Int32) (μ : wm_M) (Q : Option Value → wm_M → Prop) (h : (((μ.1 89 49) = (0 : Int32) → wm_OkI 0 186 [.ref 89, .int (-2 : Int32)] μ (fun r2 μ1 => Q (some (.int r2)) μ1)) ∧ (¬ (μ.1 89 49) = (0 : Int32) → wm_Wp 0 308 14 [.ref 89, .int a1] μ Q))) : wm_Ok 0 308 [.ref 89, .int a1] μ Q := f_308 a1 μ Q h
-- .. at 14
set_option maxRecDepth 100000 in
theorem w_308_14 (x1 : Int32) (μ : wm_M) (Q : Option Value → wm_M → Prop) (h : wm_OkI 0 184 [.int x1, .int (0 : Int32), .int ((μ.1 89 48) - (1 : Int32))] μ (fun r2 μ1 => ((r2 = (0 : Int32) → wm_Wp 0 308 37 [.ref 89, .null] μ1 Q) ∧ (¬ r2 = (0 : Int32) → (vp_in x1 12 ∧ Q (some (.int (μ1.1 111 (x1).toNatClampNeg))) μ1))))) : wm_Wp 0 308 14 [.ref 89, .int x1] μ Q := f_308_14 x1 μ Q (wm_OkI.mono h (fun r2 μ1 h2 => ⟨fun c1 => (h2.1 c1), fun c1 => (f_308_28 x1 μ1 Q (h2.2 c1))⟩))
-- .. at 37
set_option maxRecDepth 100000 in
theorem w_308_37 (μ : wm_M) (Q : Option Value → wm_M → Prop) (h : wm_OkI 0 186 [.ref 89, .int (-3 : Int32)] μ (fun r2 μ1 => Q (some (.int r2)) μ1)) : wm_Wp 0 308 37 [.ref 89, .null] μ Q := f_308_37  μ Q h
-- WindBoatModel.copy(III)I
set_option maxRecDepth 100000 in
theorem v_309 (a1 : Int32) (a2 : Int32) (a3 : Int32) (μ : wm_M) (Q : Option Value → wm_M → Prop) (h : (((μ.1 89 49) = (0 : Int32) → wm_OkI 0 185 [.ref 89, .int (-2 : Int32)] μ (fun r2 μ1 => Q (some (.int r2)) μ1)) ∧ (¬ (μ.1 89 49) = (0 : Int32) → wm_Wp 0 309 14 [.ref 89, .int a1, .int a2, .int a3, .null] μ Q))) : wm_Ok 0 309 [.ref 89, .int a1, .int a2, .int a3] μ Q := f_309 a1 a2 a3 μ Q h
-- .. at 14
set_option maxRecDepth 100000 in
theorem w_309_14 (x1 : Int32) (x2 : Int32) (x3 : Int32) (μ : wm_M) (Q : Option Value → wm_M → Prop) (h : (((0 : Int32) ≤ x3 → wm_Wp 0 309 25 [.ref 89, .int x1, .int x2, .int x3, .null] μ Q) ∧ (¬ (0 : Int32) ≤ x3 → wm_OkI 0 185 [.ref 89, .int (-4 : Int32)] μ (fun r2 μ1 => Q (some (.int r2)) μ1)))) : wm_Wp 0 309 14 [.ref 89, .int x1, .int x2, .int x3, .null] μ Q := f_309_14 x1 x2 x3 μ Q h
-- .. at 25
set_option maxRecDepth 100000 in
theorem w_309_25 (x1 : Int32) (x2 : Int32) (x3 : Int32) (μ : wm_M) (Q : Option Value → wm_M → Prop) (h : ((x1 < (0 : Int32) → wm_Wp 0 309 53 [.ref 89, .null, .null, .null, .null] μ Q) ∧ (¬ x1 < (0 : Int32) → ((x2 < (0 : Int32) → wm_Wp 0 309 53 [.ref 89, .null, .null, .null, .null] μ Q) ∧ (¬ x2 < (0 : Int32) → ((((μ.1 89 48) - x3) < x1 → wm_Wp 0 309 53 [.ref 89, .null, .null, .null, .null] μ Q) ∧ (¬ ((μ.1 89 48) - x3) < x1 → ((x2 ≤ ((μ.1 89 48) - x3) → wm_Wp 0 309 60 [.ref 89, .int x1, .int x2, .int x3, .null] μ Q) ∧ (¬ x2 ≤ ((μ.1 89 48) - x3) → wm_Wp 0 309 53 [.ref 89, .null, .null, .null, .null] μ Q))))))))) : wm_Wp 0 309 25 [.ref 89, .int x1, .int x2, .int x3, .null] μ Q := f_309_25 x1 x2 x3 μ Q h
-- .. at 53
set_option maxRecDepth 100000 in
theorem w_309_53 (μ : wm_M) (Q : Option Value → wm_M → Prop) (h : wm_OkI 0 185 [.ref 89, .int (-6 : Int32)] μ (fun r2 μ1 => Q (some (.int r2)) μ1)) : wm_Wp 0 309 53 [.ref 89, .null, .null, .null, .null] μ Q := f_309_53  μ Q h
-- .. at 60
set_option maxRecDepth 100000 in
theorem w_309_60 (x1 : Int32) (x2 : Int32) (x3 : Int32) (μ : wm_M) (Q : Option Value → wm_M → Prop) (h : wm_Wp 0 309 63 [.ref 89, .int x1, .int x2, .int x3, .int (0 : Int32)] μ Q) : wm_Wp 0 309 60 [.ref 89, .int x1, .int x2, .int x3, .null] μ Q := f_309_60 x1 x2 x3 μ Q h
-- .. at 63
set_option maxRecDepth 100000 in
theorem w_309_63 (x1 : Int32) (x2 : Int32) (x3 : Int32) (x4 : Int32) (μ : wm_M) (Q : Option Value → wm_M → Prop) (h : ((x3 ≤ x4 → wm_Wp 0 309 98 [.ref 89, .int x1, .int x2, .int x3, .null] μ Q) ∧ (¬ x3 ≤ x4 → ((x1 < x2 → wm_Wp 0 309 98 [.ref 89, .int x1, .int x2, .int x3, .null] μ Q) ∧ (¬ x1 < x2 → (vp_in (x1 + x4) 12 ∧ (vp_in (x2 + x4) 12 ∧ wm_Wp 0 309 63 [.ref 89, .int x1, .int x2, .int x3, .int (x4 + (1 : Int32))] (wm_si μ 111 ((x2 + x4)).toNatClampNeg (μ.1 111 ((x1 + x4)).toNatClampNeg)) Q))))))) : wm_Wp 0 309 63 [.ref 89, .int x1, .int x2, .int x3, .int x4] μ Q := f_309_63 x1 x2 x3 x4 μ Q ⟨fun c4 => (h.1 c4), fun c4 => ⟨fun c3 => ((h.2 c4).1 c3), fun c3 => ⟨((h.2 c4).2 c3).1, ⟨((h.2 c4).2 c3).2.1, (f_309_92 x1 x2 x3 x4 (wm_si μ 111 ((x2 + x4)).toNatClampNeg (μ.1 111 ((x1 + x4)).toNatClampNeg)) Q ((h.2 c4).2 c3).2.2)⟩⟩⟩⟩
-- .. at 98
set_option maxRecDepth 100000 in
theorem w_309_98 (x1 : Int32) (x2 : Int32) (x3 : Int32) (μ : wm_M) (Q : Option Value → wm_M → Prop) (h : wm_Wp 0 309 103 [.ref 89, .int x1, .int x2, .int x3, .int (x3 - (1 : Int32))] μ Q) : wm_Wp 0 309 98 [.ref 89, .int x1, .int x2, .int x3, .null] μ Q := f_309_98 x1 x2 x3 μ Q h
-- .. at 103
set_option maxRecDepth 100000 in
theorem w_309_103 (x1 : Int32) (x2 : Int32) (x3 : Int32) (x4 : Int32) (μ : wm_M) (Q : Option Value → wm_M → Prop) (h : ((x4 < (0 : Int32) → wm_Wp 0 309 137 [.null, .null, .null, .int x3, .null] μ Q) ∧ (¬ x4 < (0 : Int32) → ((x2 ≤ x1 → wm_Wp 0 309 137 [.null, .null, .null, .int x3, .null] μ Q) ∧ (¬ x2 ≤ x1 → (vp_in (x1 + x4) 12 ∧ (vp_in (x2 + x4) 12 ∧ wm_Wp 0 309 103 [.ref 89, .int x1, .int x2, .int x3, .int (x4 + (-1 : Int32))] (wm_si μ 111 ((x2 + x4)).toNatClampNeg (μ.1 111 ((x1 + x4)).toNatClampNeg)) Q))))))) : wm_Wp 0 309 103 [.ref 89, .int x1, .int x2, .int x3, .int x4] μ Q := f_309_103 x1 x2 x3 x4 μ Q ⟨fun c4 => (h.1 c4), fun c4 => ⟨fun c3 => ((h.2 c4).1 c3), fun c3 => ⟨((h.2 c4).2 c3).1, ⟨((h.2 c4).2 c3).2.1, (f_309_131 x1 x2 x3 x4 (wm_si μ 111 ((x2 + x4)).toNatClampNeg (μ.1 111 ((x1 + x4)).toNatClampNeg)) Q ((h.2 c4).2 c3).2.2)⟩⟩⟩⟩
-- .. at 137
set_option maxRecDepth 100000 in
theorem w_309_137 (x3 : Int32) (μ : wm_M) (Q : Option Value → wm_M → Prop) (h : Q (some (.int x3)) μ) : wm_Wp 0 309 137 [.null, .null, .null, .int x3, .null] μ Q := f_309_137 x3 μ Q h
-- WindBoatModel.status(I)I
set_option maxRecDepth 100000 in
theorem v_310 (a1 : Int32) (μ : wm_M) (Q : Option Value → wm_M → Prop) (h : wm_OkI 0 184 [.int a1, .int (-8 : Int32), .int (-2 : Int32)] μ (fun r2 μ1 => ((r2 = (0 : Int32) → wm_Wp 0 310 21 [.ref 89, .null] μ1 Q) ∧ (¬ r2 = (0 : Int32) → (vp_in (-a1) 9 ∧ Q (some (.int (μ1.1 90 ((-a1)).toNatClampNeg))) μ1))))) : wm_Ok 0 310 [.ref 89, .int a1] μ Q := f_310 a1 μ Q (wm_OkI.mono h (fun r2 μ1 h2 => ⟨fun c1 => (h2.1 c1), fun c1 => (f_310_11 a1 μ1 Q (h2.2 c1))⟩))
-- .. at 21
set_option maxRecDepth 100000 in
theorem w_310_21 (μ : wm_M) (Q : Option Value → wm_M → Prop) (h : wm_OkI 0 185 [.ref 89, .int (-7 : Int32)] μ (fun r2 μ1 => Q (some (.int r2)) μ1)) : wm_Wp 0 310 21 [.ref 89, .null] μ Q := f_310_21  μ Q h
-- java/lang/Integer.bitCount(I)I
set_option maxRecDepth 100000 in
theorem v_314 (a0 : Int32) (μ : wm_M) (Q : Option Value → wm_M → Prop) (h : Q (some (.int ((((((((a0 - (((a0).toUInt32 >>> (((1 : Int32)).toUInt32 &&& Int32.toUInt32 31)).toInt32 &&& (1431655765 : Int32))) &&& (858993459 : Int32)) + ((((a0 - (((a0).toUInt32 >>> (((1 : Int32)).toUInt32 &&& Int32.toUInt32 31)).toInt32 &&& (1431655765 : Int32)))).toUInt32 >>> (((2 : Int32)).toUInt32 &&& Int32.toUInt32 31)).toInt32 &&& (858993459 : Int32))) + (((((a0 - (((a0).toUInt32 >>> (((1 : Int32)).toUInt32 &&& Int32.toUInt32 31)).toInt32 &&& (1431655765 : Int32))) &&& (858993459 : Int32)) + ((((a0 - (((a0).toUInt32 >>> (((1 : Int32)).toUInt32 &&& Int32.toUInt32 31)).toInt32 &&& (1431655765 : Int32)))).toUInt32 >>> (((2 : Int32)).toUInt32 &&& Int32.toUInt32 31)).toInt32 &&& (858993459 : Int32)))).toUInt32 >>> (((4 : Int32)).toUInt32 &&& Int32.toUInt32 31)).toInt32) &&& (252645135 : Int32)) + (((((((a0 - (((a0).toUInt32 >>> (((1 : Int32)).toUInt32 &&& Int32.toUInt32 31)).toInt32 &&& (1431655765 : Int32))) &&& (858993459 : Int32)) + ((((a0 - (((a0).toUInt32 >>> (((1 : Int32)).toUInt32 &&& Int32.toUInt32 31)).toInt32 &&& (1431655765 : Int32)))).toUInt32 >>> (((2 : Int32)).toUInt32 &&& Int32.toUInt32 31)).toInt32 &&& (858993459 : Int32))) + (((((a0 - (((a0).toUInt32 >>> (((1 : Int32)).toUInt32 &&& Int32.toUInt32 31)).toInt32 &&& (1431655765 : Int32))) &&& (858993459 : Int32)) + ((((a0 - (((a0).toUInt32 >>> (((1 : Int32)).toUInt32 &&& Int32.toUInt32 31)).toInt32 &&& (1431655765 : Int32)))).toUInt32 >>> (((2 : Int32)).toUInt32 &&& Int32.toUInt32 31)).toInt32 &&& (858993459 : Int32)))).toUInt32 >>> (((4 : Int32)).toUInt32 &&& Int32.toUInt32 31)).toInt32) &&& (252645135 : Int32))).toUInt32 >>> (((8 : Int32)).toUInt32 &&& Int32.toUInt32 31)).toInt32) + ((((((((a0 - (((a0).toUInt32 >>> (((1 : Int32)).toUInt32 &&& Int32.toUInt32 31)).toInt32 &&& (1431655765 : Int32))) &&& (858993459 : Int32)) + ((((a0 - (((a0).toUInt32 >>> (((1 : Int32)).toUInt32 &&& Int32.toUInt32 31)).toInt32 &&& (1431655765 : Int32)))).toUInt32 >>> (((2 : Int32)).toUInt32 &&& Int32.toUInt32 31)).toInt32 &&& (858993459 : Int32))) + (((((a0 - (((a0).toUInt32 >>> (((1 : Int32)).toUInt32 &&& Int32.toUInt32 31)).toInt32 &&& (1431655765 : Int32))) &&& (858993459 : Int32)) + ((((a0 - (((a0).toUInt32 >>> (((1 : Int32)).toUInt32 &&& Int32.toUInt32 31)).toInt32 &&& (1431655765 : Int32)))).toUInt32 >>> (((2 : Int32)).toUInt32 &&& Int32.toUInt32 31)).toInt32 &&& (858993459 : Int32)))).toUInt32 >>> (((4 : Int32)).toUInt32 &&& Int32.toUInt32 31)).toInt32) &&& (252645135 : Int32)) + (((((((a0 - (((a0).toUInt32 >>> (((1 : Int32)).toUInt32 &&& Int32.toUInt32 31)).toInt32 &&& (1431655765 : Int32))) &&& (858993459 : Int32)) + ((((a0 - (((a0).toUInt32 >>> (((1 : Int32)).toUInt32 &&& Int32.toUInt32 31)).toInt32 &&& (1431655765 : Int32)))).toUInt32 >>> (((2 : Int32)).toUInt32 &&& Int32.toUInt32 31)).toInt32 &&& (858993459 : Int32))) + (((((a0 - (((a0).toUInt32 >>> (((1 : Int32)).toUInt32 &&& Int32.toUInt32 31)).toInt32 &&& (1431655765 : Int32))) &&& (858993459 : Int32)) + ((((a0 - (((a0).toUInt32 >>> (((1 : Int32)).toUInt32 &&& Int32.toUInt32 31)).toInt32 &&& (1431655765 : Int32)))).toUInt32 >>> (((2 : Int32)).toUInt32 &&& Int32.toUInt32 31)).toInt32 &&& (858993459 : Int32)))).toUInt32 >>> (((4 : Int32)).toUInt32 &&& Int32.toUInt32 31)).toInt32) &&& (252645135 : Int32))).toUInt32 >>> (((8 : Int32)).toUInt32 &&& Int32.toUInt32 31)).toInt32)).toUInt32 >>> (((16 : Int32)).toUInt32 &&& Int32.toUInt32 31)).toInt32) &&& (63 : Int32)))) μ) : wm_Ok 0 314 [.int a0] μ Q := f_314 a0 μ Q (f_314_24 (((a0 - (((a0).toUInt32 >>> (((1 : Int32)).toUInt32 &&& Int32.toUInt32 31)).toInt32 &&& (1431655765 : Int32))) &&& (858993459 : Int32)) + ((((a0 - (((a0).toUInt32 >>> (((1 : Int32)).toUInt32 &&& Int32.toUInt32 31)).toInt32 &&& (1431655765 : Int32)))).toUInt32 >>> (((2 : Int32)).toUInt32 &&& Int32.toUInt32 31)).toInt32 &&& (858993459 : Int32))) μ Q (f_314_41 ((((((a0 - (((a0).toUInt32 >>> (((1 : Int32)).toUInt32 &&& Int32.toUInt32 31)).toInt32 &&& (1431655765 : Int32))) &&& (858993459 : Int32)) + ((((a0 - (((a0).toUInt32 >>> (((1 : Int32)).toUInt32 &&& Int32.toUInt32 31)).toInt32 &&& (1431655765 : Int32)))).toUInt32 >>> (((2 : Int32)).toUInt32 &&& Int32.toUInt32 31)).toInt32 &&& (858993459 : Int32))) + (((((a0 - (((a0).toUInt32 >>> (((1 : Int32)).toUInt32 &&& Int32.toUInt32 31)).toInt32 &&& (1431655765 : Int32))) &&& (858993459 : Int32)) + ((((a0 - (((a0).toUInt32 >>> (((1 : Int32)).toUInt32 &&& Int32.toUInt32 31)).toInt32 &&& (1431655765 : Int32)))).toUInt32 >>> (((2 : Int32)).toUInt32 &&& Int32.toUInt32 31)).toInt32 &&& (858993459 : Int32)))).toUInt32 >>> (((4 : Int32)).toUInt32 &&& Int32.toUInt32 31)).toInt32) &&& (252645135 : Int32)) + (((((((a0 - (((a0).toUInt32 >>> (((1 : Int32)).toUInt32 &&& Int32.toUInt32 31)).toInt32 &&& (1431655765 : Int32))) &&& (858993459 : Int32)) + ((((a0 - (((a0).toUInt32 >>> (((1 : Int32)).toUInt32 &&& Int32.toUInt32 31)).toInt32 &&& (1431655765 : Int32)))).toUInt32 >>> (((2 : Int32)).toUInt32 &&& Int32.toUInt32 31)).toInt32 &&& (858993459 : Int32))) + (((((a0 - (((a0).toUInt32 >>> (((1 : Int32)).toUInt32 &&& Int32.toUInt32 31)).toInt32 &&& (1431655765 : Int32))) &&& (858993459 : Int32)) + ((((a0 - (((a0).toUInt32 >>> (((1 : Int32)).toUInt32 &&& Int32.toUInt32 31)).toInt32 &&& (1431655765 : Int32)))).toUInt32 >>> (((2 : Int32)).toUInt32 &&& Int32.toUInt32 31)).toInt32 &&& (858993459 : Int32)))).toUInt32 >>> (((4 : Int32)).toUInt32 &&& Int32.toUInt32 31)).toInt32) &&& (252645135 : Int32))).toUInt32 >>> (((8 : Int32)).toUInt32 &&& Int32.toUInt32 31)).toInt32) μ Q h))
-- java/util/Arrays.fill([JJ)V
set_option maxRecDepth 100000 in
theorem v_342_87 (a1 : Int64) (μ : wm_M) (Q : Option Value → wm_M → Prop) (h : wm_Wp 0 342 6 [.ref 87, .long a1, .null, .int (0 : Int32), .int (Int32.ofNat 3)] μ Q) : wm_Ok 0 342 [.ref 87, .long a1] μ Q := f_342_87 a1 μ Q h
-- .. at 6
set_option maxRecDepth 100000 in
theorem w_342_6_87 (x1 : Int64) (x3 : Int32) (x4 : Int32) (μ : wm_M) (Q : Option Value → wm_M → Prop) (h : ((x4 ≤ x3 → wm_Wp 0 342 22 [.null, .null, .null, .null, .null] μ Q) ∧ (¬ x4 ≤ x3 → (vp_in x3 3 ∧ wm_Wp 0 342 6 [.ref 87, .long x1, .null, .int (x3 + (1 : Int32)), .int x4] (wm_sl μ 87 (x3).toNatClampNeg x1) Q)))) : wm_Wp 0 342 6 [.ref 87, .long x1, .null, .int x3, .int x4] μ Q := f_342_6_87 x1 x3 x4 μ Q ⟨fun c2 => (h.1 c2), fun c2 => ⟨(h.2 c2).1, (f_342_16_87 x1 x3 x4 (wm_sl μ 87 (x3).toNatClampNeg x1) Q (h.2 c2).2)⟩⟩
-- .. at 22
set_option maxRecDepth 100000 in
theorem w_342_22_87 (μ : wm_M) (Q : Option Value → wm_M → Prop) (h : Q none μ) : wm_Wp 0 342 22 [.null, .null, .null, .null, .null] μ Q := f_342_22_87  μ Q h
-- java/util/Arrays.fill([II)V
set_option maxRecDepth 100000 in
theorem v_343_70 (a1 : Int32) (μ : wm_M) (Q : Option Value → wm_M → Prop) (h : wm_Wp 0 343 5 [.ref 70, .int a1, .int (0 : Int32), .int (Int32.ofNat 864)] μ Q) : wm_Ok 0 343 [.ref 70, .int a1] μ Q := f_343_70 a1 μ Q h
-- .. at 5
set_option maxRecDepth 100000 in
theorem w_343_5_70 (x1 : Int32) (x2 : Int32) (x3 : Int32) (μ : wm_M) (Q : Option Value → wm_M → Prop) (h : ((x3 ≤ x2 → wm_Wp 0 343 20 [.null, .null, .null, .null] μ Q) ∧ (¬ x3 ≤ x2 → (vp_in x2 864 ∧ wm_Wp 0 343 5 [.ref 70, .int x1, .int (x2 + (1 : Int32)), .int x3] (wm_si μ 70 (x2).toNatClampNeg x1) Q)))) : wm_Wp 0 343 5 [.ref 70, .int x1, .int x2, .int x3] μ Q := f_343_5_70 x1 x2 x3 μ Q ⟨fun c2 => (h.1 c2), fun c2 => ⟨(h.2 c2).1, (f_343_14_70 x1 x2 x3 (wm_si μ 70 (x2).toNatClampNeg x1) Q (h.2 c2).2)⟩⟩
-- .. at 20
set_option maxRecDepth 100000 in
theorem w_343_20_70 (μ : wm_M) (Q : Option Value → wm_M → Prop) (h : Q none μ) : wm_Wp 0 343 20 [.null, .null, .null, .null] μ Q := f_343_20_70  μ Q h
-- java/util/Arrays.fill([II)V
set_option maxRecDepth 100000 in
theorem v_343_73 (a1 : Int32) (μ : wm_M) (Q : Option Value → wm_M → Prop) (h : wm_Wp 0 343 5 [.ref 73, .int a1, .int (0 : Int32), .int (Int32.ofNat 121)] μ Q) : wm_Ok 0 343 [.ref 73, .int a1] μ Q := f_343_73 a1 μ Q h
-- .. at 5
set_option maxRecDepth 100000 in
theorem w_343_5_73 (x1 : Int32) (x2 : Int32) (x3 : Int32) (μ : wm_M) (Q : Option Value → wm_M → Prop) (h : ((x3 ≤ x2 → wm_Wp 0 343 20 [.null, .null, .null, .null] μ Q) ∧ (¬ x3 ≤ x2 → (vp_in x2 121 ∧ wm_Wp 0 343 5 [.ref 73, .int x1, .int (x2 + (1 : Int32)), .int x3] (wm_si μ 73 (x2).toNatClampNeg x1) Q)))) : wm_Wp 0 343 5 [.ref 73, .int x1, .int x2, .int x3] μ Q := f_343_5_73 x1 x2 x3 μ Q ⟨fun c2 => (h.1 c2), fun c2 => ⟨(h.2 c2).1, (f_343_14_73 x1 x2 x3 (wm_si μ 73 (x2).toNatClampNeg x1) Q (h.2 c2).2)⟩⟩
-- .. at 20
set_option maxRecDepth 100000 in
theorem w_343_20_73 (μ : wm_M) (Q : Option Value → wm_M → Prop) (h : Q none μ) : wm_Wp 0 343 20 [.null, .null, .null, .null] μ Q := f_343_20_73  μ Q h
-- java/util/Arrays.fill([II)V
set_option maxRecDepth 100000 in
theorem v_343_85 (a1 : Int32) (μ : wm_M) (Q : Option Value → wm_M → Prop) (h : wm_Wp 0 343 5 [.ref 85, .int a1, .int (0 : Int32), .int (Int32.ofNat 12)] μ Q) : wm_Ok 0 343 [.ref 85, .int a1] μ Q := f_343_85 a1 μ Q h
-- .. at 5
set_option maxRecDepth 100000 in
theorem w_343_5_85 (x1 : Int32) (x2 : Int32) (x3 : Int32) (μ : wm_M) (Q : Option Value → wm_M → Prop) (h : ((x3 ≤ x2 → wm_Wp 0 343 20 [.null, .null, .null, .null] μ Q) ∧ (¬ x3 ≤ x2 → (vp_in x2 12 ∧ wm_Wp 0 343 5 [.ref 85, .int x1, .int (x2 + (1 : Int32)), .int x3] (wm_si μ 85 (x2).toNatClampNeg x1) Q)))) : wm_Wp 0 343 5 [.ref 85, .int x1, .int x2, .int x3] μ Q := f_343_5_85 x1 x2 x3 μ Q ⟨fun c2 => (h.1 c2), fun c2 => ⟨(h.2 c2).1, (f_343_14_85 x1 x2 x3 (wm_si μ 85 (x2).toNatClampNeg x1) Q (h.2 c2).2)⟩⟩
-- .. at 20
set_option maxRecDepth 100000 in
theorem w_343_20_85 (μ : wm_M) (Q : Option Value → wm_M → Prop) (h : Q none μ) : wm_Wp 0 343 20 [.null, .null, .null, .null] μ Q := f_343_20_85  μ Q h
