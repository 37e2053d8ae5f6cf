/-! ===== what each method and each joint asks, out of its blocks (printed by wip/gen/genvc.py) ===== -/
-- WindBoat$Tape.put(I)V
set_option maxRecDepth 100000 in
theorem v_88 (a1 : Int32) (μ : wm_M) (Q : Option Value → wm_M → Prop) (h : (vp_in (μ.1 59 1) 120 ∧ Q none (wm_si (wm_si μ 60 ((μ.1 59 1)).toNatClampNeg a1) 59 1 (((wm_si μ 60 ((μ.1 59 1)).toNatClampNeg a1).1 59 1) + (1 : Int32))))) : wm_Ok 0 88 [.ref 59, .int a1] μ Q := f_88 a1 μ Q ⟨h.1, (f_88_10  (wm_si μ 60 ((μ.1 59 1)).toNatClampNeg a1) Q (f_88_20  (wm_si (wm_si μ 60 ((μ.1 59 1)).toNatClampNeg a1) 59 1 (((wm_si μ 60 ((μ.1 59 1)).toNatClampNeg a1).1 59 1) + (1 : Int32))) Q h.2))⟩
-- WindBoat$Tape.fault()I
set_option maxRecDepth 100000 in
theorem v_89 (μ : wm_M) (Q : Option Value → wm_M → Prop) (h : wm_OkV 0 90 [.ref 59] (wm_si (wm_si μ 59 7 (0 : Int32)) 59 3 (0 : Int32)) (fun μ1 => (((μ1.1 59 8) ≤ (2 : Int32) → wm_Wp 0 89 27 [.ref 59] μ1 Q) ∧ (¬ (μ1.1 59 8) ≤ (2 : Int32) → Q (some (.int (μ1.1 59 6))) μ1)))) : wm_Ok 0 89 [.ref 59] μ Q := f_89  μ Q (f_89_5  (wm_si μ 59 7 (0 : Int32)) Q (f_89_10  (wm_si (wm_si μ 59 7 (0 : Int32)) 59 3 (0 : Int32)) Q (wm_OkV.mono h (fun μ1 h1 => (f_89_14  μ1 Q h1)))))
-- .. at 27
set_option maxRecDepth 100000 in
theorem w_89_27 (μ : wm_M) (Q : Option Value → wm_M → Prop) (h : wm_OkV 0 90 [.ref 59] (wm_si μ 59 4 (μ.1 59 8)) (fun μ1 => wm_OkI 7 97 [.ref 59, .int (0 : Int32)] μ1 (fun r3 μ2 => ((r3 = (0 : Int32) → Q (some (.int (μ2.1 59 6))) μ2) ∧ (¬ r3 = (0 : Int32) → wm_Wp 0 89 52 [.ref 59] μ2 Q))))) : wm_Wp 0 89 27 [.ref 59] μ Q := f_89_27  μ Q (f_89_35  (wm_si μ 59 4 (μ.1 59 8)) Q (wm_OkV.mono h (fun μ1 h3 => (f_89_39  μ1 Q (wm_OkI.mono h3 (fun r3 μ2 h2 => ⟨fun c1 => (f_89_47  μ2 Q (h2.1 c1)), fun c1 => (h2.2 c1)⟩))))))
-- .. at 52
set_option maxRecDepth 100000 in
theorem w_89_52 (μ : wm_M) (Q : Option Value → wm_M → Prop) (h : ((((wm_si μ 59 5 (μ.1 59 3)).1 59 8) = (9 : Int32) → wm_OkV 0 90 [.ref 59] (wm_si μ 59 5 (μ.1 59 3)) (fun μ1 => wm_OkI 7 97 [.ref 59, .int (0 : Int32)] μ1 (fun r3 μ2 => ((r3 = (0 : Int32) → Q (some (.int (μ2.1 59 6))) μ2) ∧ (¬ r3 = (0 : Int32) → wm_Wp 0 89 86 [.ref 59] μ2 Q))))) ∧ (¬ ((wm_si μ 59 5 (μ.1 59 3)).1 59 8) = (9 : Int32) → wm_Wp 0 89 86 [.ref 59] (wm_si μ 59 5 (μ.1 59 3)) Q))) : wm_Wp 0 89 52 [.ref 59] μ Q := f_89_52  μ Q (f_89_60  (wm_si μ 59 5 (μ.1 59 3)) Q ⟨fun c4 => (wm_OkV.mono (h.1 c4) (fun μ1 h3 => (f_89_73  μ1 Q (wm_OkI.mono h3 (fun r3 μ2 h2 => ⟨fun c1 => (f_89_81  μ2 Q (h2.1 c1)), fun c1 => (h2.2 c1)⟩))))), fun c4 => (h.2 c4)⟩)
-- .. at 86
set_option maxRecDepth 100000 in
theorem w_89_86 (μ : wm_M) (Q : Option Value → wm_M → Prop) (h : (((μ.1 59 8) = (128 : Int32) → Q (some (.int (-1 : Int32))) μ) ∧ (¬ (μ.1 59 8) = (128 : Int32) → wm_Wp 0 89 100 [.ref 59] μ Q))) : wm_Wp 0 89 86 [.ref 59] μ Q := f_89_86  μ Q h
-- .. at 100
set_option maxRecDepth 100000 in
theorem w_89_100 (μ : wm_M) (Q : Option Value → wm_M → Prop) (h : Q (some (.int (μ.1 59 6))) μ) : wm_Wp 0 89 100 [.ref 59] μ Q := f_89_100  μ Q h
-- WindBoat$Tape.advanceByNumber()V
set_option maxRecDepth 100000 in
theorem v_93 (μ : wm_M) (Q : Option Value → wm_M → Prop) (h : wm_Wp 0 93 5 [.ref 59] (wm_si μ 59 9 (0 : Int32)) Q) : wm_Ok 0 93 [.ref 59] μ Q := f_93  μ Q h
-- .. at 5
set_option maxRecDepth 100000 in
theorem w_93_5 (μ : wm_M) (Q : Option Value → wm_M → Prop) (h : (((μ.1 59 1) ≤ (μ.1 59 7) → wm_Wp 0 93 68 [.ref 59] μ Q) ∧ (¬ (μ.1 59 1) ≤ (μ.1 59 7) → (vp_in (μ.1 59 7) 120 ∧ wm_OkI 0 95 [.int (μ.1 60 ((μ.1 59 7)).toNatClampNeg)] μ (fun r2 μ1 => ((r2 = (0 : Int32) → wm_Wp 0 93 68 [.ref 59] μ1 Q) ∧ (¬ r2 = (0 : Int32) → (vp_in (μ1.1 59 7) 120 ∧ wm_Wp 0 93 5 [.ref 59] (wm_si (wm_si μ1 59 9 ((((μ1.1 59 9) * (10 : Int32)) + (μ1.1 60 ((μ1.1 59 7)).toNatClampNeg)) - (48 : Int32))) 59 7 (((wm_si μ1 59 9 ((((μ1.1 59 9) * (10 : Int32)) + (μ1.1 60 ((μ1.1 59 7)).toNatClampNeg)) - (48 : Int32))).1 59 7) + (1 : Int32))) Q)))))))) : wm_Wp 0 93 5 [.ref 59] μ Q := f_93_5  μ Q ⟨fun c5 => (h.1 c5), fun c5 => ⟨(h.2 c5).1, (wm_OkI.mono (h.2 c5).2 (fun r2 μ1 h3 => ⟨fun c2 => (h3.1 c2), fun c2 => (f_93_31  μ1 Q ⟨(h3.2 c2).1, (f_93_55  (wm_si μ1 59 9 ((((μ1.1 59 9) * (10 : Int32)) + (μ1.1 60 ((μ1.1 59 7)).toNatClampNeg)) - (48 : Int32))) Q (f_93_65  (wm_si (wm_si μ1 59 9 ((((μ1.1 59 9) * (10 : Int32)) + (μ1.1 60 ((μ1.1 59 7)).toNatClampNeg)) - (48 : Int32))) 59 7 (((wm_si μ1 59 9 ((((μ1.1 59 9) * (10 : Int32)) + (μ1.1 60 ((μ1.1 59 7)).toNatClampNeg)) - (48 : Int32))).1 59 7) + (1 : Int32))) Q (h3.2 c2).2))⟩)⟩))⟩⟩
-- .. at 68
set_option maxRecDepth 100000 in
theorem w_93_68 (μ : wm_M) (Q : Option Value → wm_M → Prop) (h : ((((μ.1 59 7) - (μ.1 59 6)) ≤ (5 : Int32) → Q none (wm_si μ 59 8 (129 : Int32))) ∧ (¬ ((μ.1 59 7) - (μ.1 59 6)) ≤ (5 : Int32) → Q none (wm_si μ 59 8 (130 : Int32))))) : wm_Wp 0 93 68 [.ref 59] μ Q := f_93_68  μ Q ⟨fun c1 => (f_93_94  (wm_si μ 59 8 (129 : Int32)) Q (h.1 c1)), fun c1 => (f_93_94  (wm_si μ 59 8 (130 : Int32)) Q (h.2 c1))⟩
-- WindBoat$Tape.isLetter(I)Z
set_option maxRecDepth 100000 in
theorem v_94 (a0 : Int32) (μ : wm_M) (Q : Option Value → wm_M → Prop) (h : ((a0 < (97 : Int32) → wm_Wp 0 94 16 [.null] μ Q) ∧ (¬ a0 < (97 : Int32) → (((122 : Int32) < a0 → wm_Wp 0 94 16 [.null] μ Q) ∧ (¬ (122 : Int32) < a0 → (((1 : Int32) = 0 ∨ (1 : Int32) = 1) ∧ Q (some (.int (1 : Int32))) μ)))))) : wm_Ok 0 94 [.int a0] μ Q := f_94 a0 μ Q h
-- .. at 16
set_option maxRecDepth 100000 in
theorem w_94_16 (μ : wm_M) (Q : Option Value → wm_M → Prop) (h : (((0 : Int32) = 0 ∨ (0 : Int32) = 1) ∧ Q (some (.int (0 : Int32))) μ)) : wm_Wp 0 94 16 [.null] μ Q := f_94_16  μ Q h
-- WindBoat$Tape.isDigit(I)Z
set_option maxRecDepth 100000 in
theorem v_95 (a0 : Int32) (μ : wm_M) (Q : Option Value → wm_M → Prop) (h : ((a0 < (48 : Int32) → wm_Wp 0 95 16 [.null] μ Q) ∧ (¬ a0 < (48 : Int32) → (((57 : Int32) < a0 → wm_Wp 0 95 16 [.null] μ Q) ∧ (¬ (57 : Int32) < a0 → (((1 : Int32) = 0 ∨ (1 : Int32) = 1) ∧ Q (some (.int (1 : Int32))) μ)))))) : wm_Ok 0 95 [.int a0] μ Q := f_95 a0 μ Q h
-- .. at 16
set_option maxRecDepth 100000 in
theorem w_95_16 (μ : wm_M) (Q : Option Value → wm_M → Prop) (h : (((0 : Int32) = 0 ∨ (0 : Int32) = 1) ∧ Q (some (.int (0 : Int32))) μ)) : wm_Wp 0 95 16 [.null] μ Q := f_95_16  μ Q h
-- WindBoat$Tape.write(I)V
set_option maxRecDepth 100000 in
theorem v_96 (a1 : Int32) (μ : wm_M) (Q : Option Value → wm_M → Prop) (h : (((120 : Int32) ≤ (μ.1 59 3) → wm_Wp 0 96 29 [.null, .null] μ Q) ∧ (¬ (120 : Int32) ≤ (μ.1 59 3) → (vp_in (μ.1 59 3) 120 ∧ wm_Wp 0 96 29 [.null, .null] (wm_si (wm_si μ 61 ((μ.1 59 3)).toNatClampNeg a1) 59 3 (((wm_si μ 61 ((μ.1 59 3)).toNatClampNeg a1).1 59 3) + (1 : Int32))) Q)))) : wm_Ok 0 96 [.ref 59, .int a1] μ Q := f_96 a1 μ Q ⟨fun c2 => (h.1 c2), fun c2 => ⟨(h.2 c2).1, (f_96_19  (wm_si μ 61 ((μ.1 59 3)).toNatClampNeg a1) Q (h.2 c2).2)⟩⟩
-- .. at 29
set_option maxRecDepth 100000 in
theorem w_96_29 (μ : wm_M) (Q : Option Value → wm_M → Prop) (h : Q none μ) : wm_Wp 0 96 29 [.null, .null] μ Q := f_96_29  μ Q h
-- WindBoat$Tape.readE(I)Z
set_option maxRecDepth 100000 in
theorem v_97 {e : Nat} (a1 : Int32) (μ : wm_M) (Q : Option Value → wm_M → Prop) (h : wm_OkI e 98 [.ref 59, .int a1] μ (fun r2 μ1 => ((r2 = (0 : Int32) → (((0 : Int32) = 0 ∨ (0 : Int32) = 1) ∧ Q (some (.int (0 : Int32))) μ1)) ∧ (¬ r2 = (0 : Int32) → wm_Wp e 97 10 [.ref 59, .int a1, .null] μ1 Q)))) : wm_Ok e 97 [.ref 59, .int a1] μ Q := f_97 a1 μ Q (wm_OkI.mono h (fun r2 μ1 h2 => ⟨fun c1 => (f_97_8  μ1 Q (h2.1 c1)), fun c1 => (h2.2 c1)⟩))
-- .. at 10
set_option maxRecDepth 100000 in
theorem w_97_10 {e : Nat} (x1 : Int32) (μ : wm_M) (Q : Option Value → wm_M → Prop) (h : wm_Wp e 97 12 [.ref 59, .int x1, .int (0 : Int32)] μ Q) : wm_Wp e 97 10 [.ref 59, .int x1, .null] μ Q := f_97_10 x1 μ Q h
-- .. at 12
set_option maxRecDepth 100000 in
theorem w_97_12 {e : Nat} (x1 : Int32) (x2 : Int32) (μ : wm_M) (Q : Option Value → wm_M → Prop) (h : (((120 : Int32) ≤ x2 → wm_Wp e 97 53 [.null, .null, .null] μ Q) ∧ (¬ (120 : Int32) ≤ x2 → (((μ.1 59 8) = (10 : Int32) → wm_OkV 0 90 [.ref 59] μ (fun μ1 => wm_OkI e 98 [.ref 59, .int x1] μ1 (fun r3 μ2 => ((r3 = (0 : Int32) → (((0 : Int32) = 0 ∨ (0 : Int32) = 1) ∧ Q (some (.int (0 : Int32))) μ2)) ∧ (¬ r3 = (0 : Int32) → wm_Wp e 97 41 [.ref 59, .int x1, .int x2] μ2 Q))))) ∧ (¬ (μ.1 59 8) = (10 : Int32) → wm_Wp e 97 53 [.null, .null, .null] μ Q))))) : wm_Wp e 97 12 [.ref 59, .int x1, .int x2] μ Q := f_97_12 x1 x2 μ Q ⟨fun c5 => (h.1 c5), fun c5 => ⟨fun c4 => (wm_OkV.mono ((h.2 c5).1 c4) (fun μ1 h3 => (f_97_31 x1 x2 μ1 Q (wm_OkI.mono h3 (fun r3 μ2 h2 => ⟨fun c1 => (f_97_39  μ2 Q (h2.1 c1)), fun c1 => (h2.2 c1)⟩))))), fun c4 => ((h.2 c5).2 c4)⟩⟩
-- .. at 41
set_option maxRecDepth 100000 in
theorem w_97_41 {e : Nat} (x1 : Int32) (x2 : Int32) (μ : wm_M) (Q : Option Value → wm_M → Prop) (h : wm_OkV 0 96 [.ref 59, .int (-110 : Int32)] μ (fun μ1 => wm_Wp e 97 12 [.ref 59, .int x1, .int (x2 + (1 : Int32))] μ1 Q)) : wm_Wp e 97 41 [.ref 59, .int x1, .int x2] μ Q := f_97_41 x1 x2 μ Q (wm_OkV.mono h (fun μ1 h1 => (f_97_47 x1 x2 μ1 Q h1)))
-- .. at 53
set_option maxRecDepth 100000 in
theorem w_97_53 {e : Nat} (μ : wm_M) (Q : Option Value → wm_M → Prop) (h : (((1 : Int32) = 0 ∨ (1 : Int32) = 1) ∧ Q (some (.int (1 : Int32))) μ)) : wm_Wp e 97 53 [.null, .null, .null] μ Q := f_97_53  μ Q h
-- WindBoat$Tape.readAnd(I)Z
set_option maxRecDepth 100000 in
theorem v_98 {e : Nat} (a1 : Int32) (μ : wm_M) (Q : Option Value → wm_M → Prop) (h : wm_OkI e 99 [.ref 59, .int a1] μ (fun r2 μ1 => ((r2 = (0 : Int32) → (((0 : Int32) = 0 ∨ (0 : Int32) = 1) ∧ Q (some (.int (0 : Int32))) μ1)) ∧ (¬ r2 = (0 : Int32) → wm_Wp e 98 10 [.ref 59, .int a1, .null] μ1 Q)))) : wm_Ok e 98 [.ref 59, .int a1] μ Q := f_98 a1 μ Q (wm_OkI.mono h (fun r2 μ1 h2 => ⟨fun c1 => (f_98_8  μ1 Q (h2.1 c1)), fun c1 => (h2.2 c1)⟩))
-- .. at 10
set_option maxRecDepth 100000 in
theorem w_98_10 {e : Nat} (x1 : Int32) (μ : wm_M) (Q : Option Value → wm_M → Prop) (h : wm_Wp e 98 12 [.ref 59, .int x1, .int (0 : Int32)] μ Q) : wm_Wp e 98 10 [.ref 59, .int x1, .null] μ Q := f_98_10 x1 μ Q h
-- .. at 12
set_option maxRecDepth 100000 in
theorem w_98_12 {e : Nat} (x1 : Int32) (x2 : Int32) (μ : wm_M) (Q : Option Value → wm_M → Prop) (h : (((120 : Int32) ≤ x2 → wm_Wp e 98 53 [.null, .null, .null] μ Q) ∧ (¬ (120 : Int32) ≤ x2 → (((μ.1 59 8) = (11 : Int32) → wm_OkV 0 90 [.ref 59] μ (fun μ1 => wm_OkI e 99 [.ref 59, .int x1] μ1 (fun r3 μ2 => ((r3 = (0 : Int32) → (((0 : Int32) = 0 ∨ (0 : Int32) = 1) ∧ Q (some (.int (0 : Int32))) μ2)) ∧ (¬ r3 = (0 : Int32) → wm_Wp e 98 41 [.ref 59, .int x1, .int x2] μ2 Q))))) ∧ (¬ (μ.1 59 8) = (11 : Int32) → wm_Wp e 98 53 [.null, .null, .null] μ Q))))) : wm_Wp e 98 12 [.ref 59, .int x1, .int x2] μ Q := f_98_12 x1 x2 μ Q ⟨fun c5 => (h.1 c5), fun c5 => ⟨fun c4 => (wm_OkV.mono ((h.2 c5).1 c4) (fun μ1 h3 => (f_98_31 x1 x2 μ1 Q (wm_OkI.mono h3 (fun r3 μ2 h2 => ⟨fun c1 => (f_98_39  μ2 Q (h2.1 c1)), fun c1 => (h2.2 c1)⟩))))), fun c4 => ((h.2 c5).2 c4)⟩⟩
-- .. at 41
set_option maxRecDepth 100000 in
theorem w_98_41 {e : Nat} (x1 : Int32) (x2 : Int32) (μ : wm_M) (Q : Option Value → wm_M → Prop) (h : wm_OkV 0 96 [.ref 59, .int (-111 : Int32)] μ (fun μ1 => wm_Wp e 98 12 [.ref 59, .int x1, .int (x2 + (1 : Int32))] μ1 Q)) : wm_Wp e 98 41 [.ref 59, .int x1, .int x2] μ Q := f_98_41 x1 x2 μ Q (wm_OkV.mono h (fun μ1 h1 => (f_98_47 x1 x2 μ1 Q h1)))
-- .. at 53
set_option maxRecDepth 100000 in
theorem w_98_53 {e : Nat} (μ : wm_M) (Q : Option Value → wm_M → Prop) (h : (((1 : Int32) = 0 ∨ (1 : Int32) = 1) ∧ Q (some (.int (1 : Int32))) μ)) : wm_Wp e 98 53 [.null, .null, .null] μ Q := f_98_53  μ Q h
-- WindBoat$Tape.readNot(I)Z
set_option maxRecDepth 100000 in
theorem v_99 {e : Nat} (a1 : Int32) (μ : wm_M) (Q : Option Value → wm_M → Prop) (h : (((μ.1 59 8) = (12 : Int32) → wm_Wp (e + 1) 99 15 [.ref 59, .int a1] μ Q) ∧ (¬ (μ.1 59 8) = (12 : Int32) → wm_OkI (e + 1) 100 [.ref 59, .int a1] μ (fun r2 μ1 => ((r2 = 0 ∨ r2 = 1) ∧ Q (some (.int r2)) μ1))))) : wm_Ok (e + 1) 99 [.ref 59, .int a1] μ Q := f_99 a1 μ Q h
-- .. at 15
set_option maxRecDepth 100000 in
theorem w_99_15 {e : Nat} (x1 : Int32) (μ : wm_M) (Q : Option Value → wm_M → Prop) (h : ((x1 = (6 : Int32) → (((0 : Int32) = 0 ∨ (0 : Int32) = 1) ∧ Q (some (.int (0 : Int32))) μ)) ∧ (¬ x1 = (6 : Int32) → wm_Wp (e + 1) 99 23 [.ref 59, .int x1] μ Q))) : wm_Wp (e + 1) 99 15 [.ref 59, .int x1] μ Q := f_99_15 x1 μ Q h
-- .. at 23
set_option maxRecDepth 100000 in
theorem w_99_23 {e : Nat} (x1 : Int32) (μ : wm_M) (Q : Option Value → wm_M → Prop) (h : wm_OkV 0 90 [.ref 59] μ (fun μ1 => wm_OkI e 99 [.ref 59, .int (x1 + (1 : Int32))] μ1 (fun r3 μ2 => ((r3 = (0 : Int32) → (((0 : Int32) = 0 ∨ (0 : Int32) = 1) ∧ Q (some (.int (0 : Int32))) μ2)) ∧ (¬ r3 = (0 : Int32) → wm_Wp (e + 1) 99 39 [.ref 59, .null] μ2 Q))))) : wm_Wp (e + 1) 99 23 [.ref 59, .int x1] μ Q := f_99_23 x1 μ Q (wm_OkV.mono h (fun μ1 h3 => (f_99_27 x1 μ1 Q (wm_OkI.mono h3 (fun r3 μ2 h2 => ⟨fun c1 => (f_99_37  μ2 Q (h2.1 c1)), fun c1 => (h2.2 c1)⟩)))))
-- .. at 39
set_option maxRecDepth 100000 in
theorem w_99_39 {e : Nat} (μ : wm_M) (Q : Option Value → wm_M → Prop) (h : wm_OkV 0 96 [.ref 59, .int (-112 : Int32)] μ (fun μ1 => (((1 : Int32) = 0 ∨ (1 : Int32) = 1) ∧ Q (some (.int (1 : Int32))) μ1))) : wm_Wp (e + 1) 99 39 [.ref 59, .null] μ Q := f_99_39  μ Q (wm_OkV.mono h (fun μ1 h1 => (f_99_45  μ1 Q h1)))
-- WindBoat$Tape.readComparison(I)Z
set_option maxRecDepth 100000 in
theorem v_100 {e : Nat} (a1 : Int32) (μ : wm_M) (Q : Option Value → wm_M → Prop) (h : wm_OkI e 101 [.ref 59, .int a1] μ (fun r2 μ1 => ((r2 = (0 : Int32) → (((0 : Int32) = 0 ∨ (0 : Int32) = 1) ∧ Q (some (.int (0 : Int32))) μ1)) ∧ (¬ r2 = (0 : Int32) → wm_Wp e 100 10 [.ref 59, .int a1, .null] μ1 Q)))) : wm_Ok e 100 [.ref 59, .int a1] μ Q := f_100 a1 μ Q (wm_OkI.mono h (fun r2 μ1 h2 => ⟨fun c1 => (f_100_8  μ1 Q (h2.1 c1)), fun c1 => (h2.2 c1)⟩))
-- .. at 10
set_option maxRecDepth 100000 in
theorem w_100_10 {e : Nat} (x1 : Int32) (μ : wm_M) (Q : Option Value → wm_M → Prop) (h : (((μ.1 59 8) = (61 : Int32) → wm_Wp e 100 35 [.ref 59, .int x1, .int (μ.1 59 8)] μ Q) ∧ (¬ (μ.1 59 8) = (61 : Int32) → (((μ.1 59 8) = (60 : Int32) → wm_Wp e 100 35 [.ref 59, .int x1, .int (μ.1 59 8)] μ Q) ∧ (¬ (μ.1 59 8) = (60 : Int32) → (((μ.1 59 8) = (62 : Int32) → wm_Wp e 100 35 [.ref 59, .int x1, .int (μ.1 59 8)] μ Q) ∧ (¬ (μ.1 59 8) = (62 : Int32) → (((1 : Int32) = 0 ∨ (1 : Int32) = 1) ∧ Q (some (.int (1 : Int32))) μ)))))))) : wm_Wp e 100 10 [.ref 59, .int x1, .null] μ Q := f_100_10 x1 μ Q ⟨fun c3 => (h.1 c3), fun c3 => ⟨fun c2 => ((h.2 c3).1 c2), fun c2 => ⟨fun c1 => (((h.2 c3).2 c2).1 c1), fun c1 => (f_100_33  μ Q (((h.2 c3).2 c2).2 c1))⟩⟩⟩
-- .. at 35
set_option maxRecDepth 100000 in
theorem w_100_35 {e : Nat} (x1 : Int32) (x2 : Int32) (μ : wm_M) (Q : Option Value → wm_M → Prop) (h : wm_OkV 0 90 [.ref 59] μ (fun μ1 => wm_OkI e 101 [.ref 59, .int x1] μ1 (fun r3 μ2 => ((r3 = (0 : Int32) → (((0 : Int32) = 0 ∨ (0 : Int32) = 1) ∧ Q (some (.int (0 : Int32))) μ2)) ∧ (¬ r3 = (0 : Int32) → wm_Wp e 100 49 [.ref 59, .null, .int x2] μ2 Q))))) : wm_Wp e 100 35 [.ref 59, .int x1, .int x2] μ Q := f_100_35 x1 x2 μ Q (wm_OkV.mono h (fun μ1 h3 => (f_100_39 x1 x2 μ1 Q (wm_OkI.mono h3 (fun r3 μ2 h2 => ⟨fun c1 => (f_100_47  μ2 Q (h2.1 c1)), fun c1 => (h2.2 c1)⟩)))))
-- .. at 49
set_option maxRecDepth 100000 in
theorem w_100_49 {e : Nat} (x2 : Int32) (μ : wm_M) (Q : Option Value → wm_M → Prop) (h : wm_OkV 0 96 [.ref 59, .int ((-100 : Int32) - x2)] μ (fun μ1 => (((1 : Int32) = 0 ∨ (1 : Int32) = 1) ∧ Q (some (.int (1 : Int32))) μ1))) : wm_Wp e 100 49 [.ref 59, .null, .int x2] μ Q := f_100_49 x2 μ Q (wm_OkV.mono h (fun μ1 h1 => (f_100_57  μ1 Q h1)))
-- WindBoat$Tape.readSum(I)Z
set_option maxRecDepth 100000 in
theorem v_101 {e : Nat} (a1 : Int32) (μ : wm_M) (Q : Option Value → wm_M → Prop) (h : wm_OkI e 102 [.ref 59, .int a1] μ (fun r2 μ1 => ((r2 = (0 : Int32) → (((0 : Int32) = 0 ∨ (0 : Int32) = 1) ∧ Q (some (.int (0 : Int32))) μ1)) ∧ (¬ r2 = (0 : Int32) → wm_Wp e 101 10 [.ref 59, .int a1, .null, .null] μ1 Q)))) : wm_Ok e 101 [.ref 59, .int a1] μ Q := f_101 a1 μ Q (wm_OkI.mono h (fun r2 μ1 h2 => ⟨fun c1 => (f_101_8  μ1 Q (h2.1 c1)), fun c1 => (h2.2 c1)⟩))
-- .. at 10
set_option maxRecDepth 100000 in
theorem w_101_10 {e : Nat} (x1 : Int32) (μ : wm_M) (Q : Option Value → wm_M → Prop) (h : wm_Wp e 101 12 [.ref 59, .int x1, .int (0 : Int32), .null] μ Q) : wm_Wp e 101 10 [.ref 59, .int x1, .null, .null] μ Q := f_101_10 x1 μ Q h
-- .. at 12
set_option maxRecDepth 100000 in
theorem w_101_12 {e : Nat} (x1 : Int32) (x2 : Int32) (μ : wm_M) (Q : Option Value → wm_M → Prop) (h : (((120 : Int32) ≤ x2 → wm_Wp e 101 69 [.null, .null, .null, .null] μ Q) ∧ (¬ (120 : Int32) ≤ x2 → (((μ.1 59 8) = (43 : Int32) → wm_Wp e 101 36 [.ref 59, .int x1, .int x2, .null] μ Q) ∧ (¬ (μ.1 59 8) = (43 : Int32) → (((μ.1 59 8) = (45 : Int32) → wm_Wp e 101 36 [.ref 59, .int x1, .int x2, .null] μ Q) ∧ (¬ (μ.1 59 8) = (45 : Int32) → wm_Wp e 101 69 [.null, .null, .null, .null] μ Q))))))) : wm_Wp e 101 12 [.ref 59, .int x1, .int x2, .null] μ Q := f_101_12 x1 x2 μ Q h
-- .. at 36
set_option maxRecDepth 100000 in
theorem w_101_36 {e : Nat} (x1 : Int32) (x2 : Int32) (μ : wm_M) (Q : Option Value → wm_M → Prop) (h : wm_OkV 0 90 [.ref 59] μ (fun μ1 => wm_OkI e 102 [.ref 59, .int x1] μ1 (fun r3 μ2 => ((r3 = (0 : Int32) → (((0 : Int32) = 0 ∨ (0 : Int32) = 1) ∧ Q (some (.int (0 : Int32))) μ2)) ∧ (¬ r3 = (0 : Int32) → wm_Wp e 101 55 [.ref 59, .int x1, .int x2, .int (μ.1 59 8)] μ2 Q))))) : wm_Wp e 101 36 [.ref 59, .int x1, .int x2, .null] μ Q := f_101_36 x1 x2 μ Q (wm_OkV.mono h (fun μ1 h3 => (f_101_45 x1 x2 (μ.1 59 8) μ1 Q (wm_OkI.mono h3 (fun r3 μ2 h2 => ⟨fun c1 => (f_101_53  μ2 Q (h2.1 c1)), fun c1 => (h2.2 c1)⟩)))))
-- .. at 55
set_option maxRecDepth 100000 in
theorem w_101_55 {e : Nat} (x1 : Int32) (x2 : Int32) (x3 : Int32) (μ : wm_M) (Q : Option Value → wm_M → Prop) (h : wm_OkV 0 96 [.ref 59, .int ((-100 : Int32) - x3)] μ (fun μ1 => wm_Wp e 101 12 [.ref 59, .int x1, .int (x2 + (1 : Int32)), .null] μ1 Q)) : wm_Wp e 101 55 [.ref 59, .int x1, .int x2, .int x3] μ Q := f_101_55 x1 x2 x3 μ Q (wm_OkV.mono h (fun μ1 h1 => (f_101_63 x1 x2 μ1 Q h1)))
-- .. at 69
set_option maxRecDepth 100000 in
theorem w_101_69 {e : Nat} (μ : wm_M) (Q : Option Value → wm_M → Prop) (h : (((1 : Int32) = 0 ∨ (1 : Int32) = 1) ∧ Q (some (.int (1 : Int32))) μ)) : wm_Wp e 101 69 [.null, .null, .null, .null] μ Q := f_101_69  μ Q h
-- WindBoat$Tape.readTerm(I)Z
set_option maxRecDepth 100000 in
theorem v_102 {e : Nat} (a1 : Int32) (μ : wm_M) (Q : Option Value → wm_M → Prop) (h : wm_OkI e 103 [.ref 59, .int a1] μ (fun r2 μ1 => ((r2 = (0 : Int32) → (((0 : Int32) = 0 ∨ (0 : Int32) = 1) ∧ Q (some (.int (0 : Int32))) μ1)) ∧ (¬ r2 = (0 : Int32) → wm_Wp e 102 10 [.ref 59, .int a1, .null, .null] μ1 Q)))) : wm_Ok e 102 [.ref 59, .int a1] μ Q := f_102 a1 μ Q (wm_OkI.mono h (fun r2 μ1 h2 => ⟨fun c1 => (f_102_8  μ1 Q (h2.1 c1)), fun c1 => (h2.2 c1)⟩))
-- .. at 10
set_option maxRecDepth 100000 in
theorem w_102_10 {e : Nat} (x1 : Int32) (μ : wm_M) (Q : Option Value → wm_M → Prop) (h : wm_Wp e 102 12 [.ref 59, .int x1, .int (0 : Int32), .null] μ Q) : wm_Wp e 102 10 [.ref 59, .int x1, .null, .null] μ Q := f_102_10 x1 μ Q h
-- .. at 12
set_option maxRecDepth 100000 in
theorem w_102_12 {e : Nat} (x1 : Int32) (x2 : Int32) (μ : wm_M) (Q : Option Value → wm_M → Prop) (h : (((120 : Int32) ≤ x2 → wm_Wp e 102 78 [.null, .null, .null, .null] μ Q) ∧ (¬ (120 : Int32) ≤ x2 → (((μ.1 59 8) = (42 : Int32) → wm_Wp e 102 45 [.ref 59, .int x1, .int x2, .null] μ Q) ∧ (¬ (μ.1 59 8) = (42 : Int32) → (((μ.1 59 8) = (47 : Int32) → wm_Wp e 102 45 [.ref 59, .int x1, .int x2, .null] μ Q) ∧ (¬ (μ.1 59 8) = (47 : Int32) → (((μ.1 59 8) = (37 : Int32) → wm_Wp e 102 45 [.ref 59, .int x1, .int x2, .null] μ Q) ∧ (¬ (μ.1 59 8) = (37 : Int32) → wm_Wp e 102 78 [.null, .null, .null, .null] μ Q))))))))) : wm_Wp e 102 12 [.ref 59, .int x1, .int x2, .null] μ Q := f_102_12 x1 x2 μ Q h
-- .. at 45
set_option maxRecDepth 100000 in
theorem w_102_45 {e : Nat} (x1 : Int32) (x2 : Int32) (μ : wm_M) (Q : Option Value → wm_M → Prop) (h : wm_OkV 0 90 [.ref 59] μ (fun μ1 => wm_OkI e 103 [.ref 59, .int x1] μ1 (fun r3 μ2 => ((r3 = (0 : Int32) → (((0 : Int32) = 0 ∨ (0 : Int32) = 1) ∧ Q (some (.int (0 : Int32))) μ2)) ∧ (¬ r3 = (0 : Int32) → wm_Wp e 102 64 [.ref 59, .int x1, .int x2, .int (μ.1 59 8)] μ2 Q))))) : wm_Wp e 102 45 [.ref 59, .int x1, .int x2, .null] μ Q := f_102_45 x1 x2 μ Q (wm_OkV.mono h (fun μ1 h3 => (f_102_54 x1 x2 (μ.1 59 8) μ1 Q (wm_OkI.mono h3 (fun r3 μ2 h2 => ⟨fun c1 => (f_102_62  μ2 Q (h2.1 c1)), fun c1 => (h2.2 c1)⟩)))))
-- .. at 64
set_option maxRecDepth 100000 in
theorem w_102_64 {e : Nat} (x1 : Int32) (x2 : Int32) (x3 : Int32) (μ : wm_M) (Q : Option Value → wm_M → Prop) (h : wm_OkV 0 96 [.ref 59, .int ((-100 : Int32) - x3)] μ (fun μ1 => wm_Wp e 102 12 [.ref 59, .int x1, .int (x2 + (1 : Int32)), .null] μ1 Q)) : wm_Wp e 102 64 [.ref 59, .int x1, .int x2, .int x3] μ Q := f_102_64 x1 x2 x3 μ Q (wm_OkV.mono h (fun μ1 h1 => (f_102_72 x1 x2 μ1 Q h1)))
-- .. at 78
set_option maxRecDepth 100000 in
theorem w_102_78 {e : Nat} (μ : wm_M) (Q : Option Value → wm_M → Prop) (h : (((1 : Int32) = 0 ∨ (1 : Int32) = 1) ∧ Q (some (.int (1 : Int32))) μ)) : wm_Wp e 102 78 [.null, .null, .null, .null] μ Q := f_102_78  μ Q h
-- WindBoat$Tape.readOne(I)Z
set_option maxRecDepth 100000 in
theorem v_103 {e : Nat} (a1 : Int32) (μ : wm_M) (Q : Option Value → wm_M → Prop) (h : (((μ.1 59 8) = (129 : Int32) → wm_OkV 0 96 [.ref 59, .int (μ.1 59 9)] μ (fun μ1 => wm_OkV 0 90 [.ref 59] μ1 (fun μ2 => (((1 : Int32) = 0 ∨ (1 : Int32) = 1) ∧ Q (some (.int (1 : Int32))) μ2)))) ∧ (¬ (μ.1 59 8) = (129 : Int32) → wm_Wp e 103 24 [.ref 59, .int a1] μ Q))) : wm_Ok e 103 [.ref 59, .int a1] μ Q := f_103 a1 μ Q ⟨fun c3 => (wm_OkV.mono (h.1 c3) (fun μ1 h2 => (f_103_18  μ1 Q (wm_OkV.mono h2 (fun μ2 h1 => (f_103_22  μ2 Q h1)))))), fun c3 => (h.2 c3)⟩
-- .. at 24
set_option maxRecDepth 100000 in
theorem w_103_24 {e : Nat} (x1 : Int32) (μ : wm_M) (Q : Option Value → wm_M → Prop) (h : (((μ.1 59 8) < (3 : Int32) → wm_Wp e 103 59 [.ref 59, .int x1] μ Q) ∧ (¬ (μ.1 59 8) < (3 : Int32) → (((8 : Int32) < (μ.1 59 8) → wm_Wp e 103 59 [.ref 59, .int x1] μ Q) ∧ (¬ (8 : Int32) < (μ.1 59 8) → wm_OkV 0 96 [.ref 59, .int ((-1 : Int32) - ((μ.1 59 8) - (3 : Int32)))] μ (fun μ1 => wm_OkV 0 90 [.ref 59] μ1 (fun μ2 => (((1 : Int32) = 0 ∨ (1 : Int32) = 1) ∧ Q (some (.int (1 : Int32))) μ2)))))))) : wm_Wp e 103 24 [.ref 59, .int x1] μ Q := f_103_24 x1 μ Q ⟨fun c4 => (h.1 c4), fun c4 => ⟨fun c3 => ((h.2 c4).1 c3), fun c3 => (wm_OkV.mono ((h.2 c4).2 c3) (fun μ1 h2 => (f_103_53  μ1 Q (wm_OkV.mono h2 (fun μ2 h1 => (f_103_57  μ2 Q h1))))))⟩⟩
-- .. at 59
set_option maxRecDepth 100000 in
theorem w_103_59 {e : Nat} (x1 : Int32) (μ : wm_M) (Q : Option Value → wm_M → Prop) (h : ((x1 = (6 : Int32) → wm_Wp e 103 83 [.null, .null] μ Q) ∧ (¬ x1 = (6 : Int32) → (((μ.1 59 8) = (45 : Int32) → wm_Wp e 103 85 [.ref 59, .int x1] μ Q) ∧ (¬ (μ.1 59 8) = (45 : Int32) → (((μ.1 59 8) = (40 : Int32) → wm_Wp e 103 85 [.ref 59, .int x1] μ Q) ∧ (¬ (μ.1 59 8) = (40 : Int32) → wm_Wp e 103 83 [.null, .null] μ Q))))))) : wm_Wp e 103 59 [.ref 59, .int x1] μ Q := f_103_59 x1 μ Q h
-- .. at 83
set_option maxRecDepth 100000 in
theorem w_103_83 {e : Nat} (μ : wm_M) (Q : Option Value → wm_M → Prop) (h : (((0 : Int32) = 0 ∨ (0 : Int32) = 1) ∧ Q (some (.int (0 : Int32))) μ)) : wm_Wp e 103 83 [.null, .null] μ Q := f_103_83  μ Q h
-- .. at 85
set_option maxRecDepth 100000 in
theorem w_103_85 {e : Nat} (x1 : Int32) (μ : wm_M) (Q : Option Value → wm_M → Prop) (h : (((μ.1 59 8) = (45 : Int32) → wm_OkI e 104 [.ref 59, .int (x1 + (1 : Int32))] μ (fun r2 μ1 => ((r2 = 0 ∨ r2 = 1) ∧ Q (some (.int r2)) μ1))) ∧ (¬ (μ.1 59 8) = (45 : Int32) → wm_Wp e 103 104 [.ref 59, .int x1] μ Q))) : wm_Wp e 103 85 [.ref 59, .int x1] μ Q := f_103_85 x1 μ Q h
-- .. at 104
set_option maxRecDepth 100000 in
theorem w_103_104 {e : Nat} (x1 : Int32) (μ : wm_M) (Q : Option Value → wm_M → Prop) (h : wm_OkI e 105 [.ref 59, .int (x1 + (1 : Int32))] μ (fun r2 μ1 => ((r2 = 0 ∨ r2 = 1) ∧ Q (some (.int r2)) μ1))) : wm_Wp e 103 104 [.ref 59, .int x1] μ Q := f_103_104 x1 μ Q h
-- WindBoat$Tape.readMinus(I)Z
set_option maxRecDepth 100000 in
theorem v_104 {e : Nat} (a1 : Int32) (μ : wm_M) (Q : Option Value → wm_M → Prop) (h : wm_OkV 0 90 [.ref 59] μ (fun μ1 => wm_OkI e 103 [.ref 59, .int a1] μ1 (fun r3 μ2 => ((r3 = (0 : Int32) → (((0 : Int32) = 0 ∨ (0 : Int32) = 1) ∧ Q (some (.int (0 : Int32))) μ2)) ∧ (¬ r3 = (0 : Int32) → wm_Wp (e + 1) 104 14 [.ref 59, .null] μ2 Q))))) : wm_Ok (e + 1) 104 [.ref 59, .int a1] μ Q := f_104 a1 μ Q (wm_OkV.mono h (fun μ1 h3 => (f_104_4 a1 μ1 Q (wm_OkI.mono h3 (fun r3 μ2 h2 => ⟨fun c1 => (f_104_12  μ2 Q (h2.1 c1)), fun c1 => (h2.2 c1)⟩)))))
-- .. at 14
set_option maxRecDepth 100000 in
theorem w_104_14 {e : Nat} (μ : wm_M) (Q : Option Value → wm_M → Prop) (h : wm_OkV 0 96 [.ref 59, .int (-101 : Int32)] μ (fun μ1 => (((1 : Int32) = 0 ∨ (1 : Int32) = 1) ∧ Q (some (.int (1 : Int32))) μ1))) : wm_Wp (e + 1) 104 14 [.ref 59, .null] μ Q := f_104_14  μ Q (wm_OkV.mono h (fun μ1 h1 => (f_104_20  μ1 Q h1)))
-- WindBoat$Tape.readBrackets(I)Z
set_option maxRecDepth 100000 in
theorem v_105 {e : Nat} (a1 : Int32) (μ : wm_M) (Q : Option Value → wm_M → Prop) (h : wm_OkV 0 90 [.ref 59] μ (fun μ1 => wm_OkI e 97 [.ref 59, .int a1] μ1 (fun r3 μ2 => ((r3 = (0 : Int32) → wm_Wp (e + 1) 105 21 [.null, .null] μ2 Q) ∧ (¬ r3 = (0 : Int32) → (((μ2.1 59 8) = (41 : Int32) → wm_Wp (e + 1) 105 23 [.ref 59, .null] μ2 Q) ∧ (¬ (μ2.1 59 8) = (41 : Int32) → wm_Wp (e + 1) 105 21 [.null, .null] μ2 Q))))))) : wm_Ok (e + 1) 105 [.ref 59, .int a1] μ Q := f_105 a1 μ Q (wm_OkV.mono h (fun μ1 h3 => (f_105_4 a1 μ1 Q (wm_OkI.mono h3 (fun r3 μ2 h2 => ⟨fun c1 => (h2.1 c1), fun c1 => (f_105_12  μ2 Q (h2.2 c1))⟩)))))
-- .. at 21
set_option maxRecDepth 100000 in
theorem w_105_21 {e : Nat} (μ : wm_M) (Q : Option Value → wm_M → Prop) (h : (((0 : Int32) = 0 ∨ (0 : Int32) = 1) ∧ Q (some (.int (0 : Int32))) μ)) : wm_Wp (e + 1) 105 21 [.null, .null] μ Q := f_105_21  μ Q h
-- .. at 23
set_option maxRecDepth 100000 in
theorem w_105_23 {e : Nat} (μ : wm_M) (Q : Option Value → wm_M → Prop) (h : wm_OkV 0 90 [.ref 59] μ (fun μ1 => (((1 : Int32) = 0 ∨ (1 : Int32) = 1) ∧ Q (some (.int (1 : Int32))) μ1))) : wm_Wp (e + 1) 105 23 [.ref 59, .null] μ Q := f_105_23  μ Q (wm_OkV.mono h (fun μ1 h1 => (f_105_27  μ1 Q h1)))
-- WindBoat$Ways.find(IIII)I
set_option maxRecDepth 100000 in
theorem v_107 (a1 : Int32) (a2 : Int32) (a3 : Int32) (a4 : Int32) (μ : wm_M) (Q : Option Value → wm_M → Prop) (h : wm_OkV 0 343 [.ref 70, .int (999 : Int32)] (wm_si μ 69 7 a3) (fun μ1 => wm_OkV 0 343 [.ref 73, .int (-1 : Int32)] μ1 (fun μ2 => wm_OkV 0 110 [.ref 69, .int a1, .int a2] μ2 (fun μ3 => wm_Wp 0 107 32 [.ref 69, .null, .null, .null, .int a4, .int a2, .null, .null, .null] μ3 Q)))) : wm_Ok 0 107 [.ref 69, .int a1, .int a2, .int a3, .int a4] μ Q := f_107 a1 a2 a3 a4 μ Q (f_107_5 a1 a2 a4 (wm_si μ 69 7 a3) Q (wm_OkV.mono h (fun μ1 h3 => (f_107_15 a1 a2 a4 μ1 Q (wm_OkV.mono h3 (fun μ2 h2 => (f_107_23 a1 a2 a4 μ2 Q (wm_OkV.mono h2 (fun μ3 h1 => (f_107_29 a2 a4 μ3 Q h1))))))))))
-- .. at 32
set_option maxRecDepth 100000 in
theorem w_107_32 (x4 : Int32) (x5 : Int32) (μ : wm_M) (Q : Option Value → wm_M → Prop) (h : (((120 : Int32) < x5 → wm_Wp 0 107 113 [.null, .null, .null, .null, .null, .null, .null, .null, .null] μ Q) ∧ (¬ (120 : Int32) < x5 → wm_OkI 0 108 [.ref 69, .int x4, .int x5] μ (fun r2 μ1 => ((r2 = (-1 : Int32) → wm_Wp 0 107 58 [.ref 69, .null, .null, .null, .int x4, .int x5, .null, .null, .null] μ1 Q) ∧ (¬ r2 = (-1 : Int32) → Q (some (.int r2)) μ1)))))) : wm_Wp 0 107 32 [.ref 69, .null, .null, .null, .int x4, .int x5, .null, .null, .null] μ Q := f_107_32 x4 x5 μ Q ⟨fun c2 => (h.1 c2), fun c2 => (wm_OkI.mono (h.2 c2) (fun r2 μ1 h1 => (f_107_49 x4 x5 r2 μ1 Q h1)))⟩
-- .. at 58
set_option maxRecDepth 100000 in
theorem w_107_58 (x4 : Int32) (x5 : Int32) (μ : wm_M) (Q : Option Value → wm_M → Prop) (h : (vp_in x5 121 ∧ wm_Wp 0 107 70 [.ref 69, .null, .null, .null, .int x4, .int x5, .null, .int (μ.1 73 (x5).toNatClampNeg), .int (0 : Int32)] μ Q)) : wm_Wp 0 107 58 [.ref 69, .null, .null, .null, .int x4, .int x5, .null, .null, .null] μ Q := f_107_58 x4 x5 μ Q h
-- .. at 70
set_option maxRecDepth 100000 in
theorem w_107_70 (x4 : Int32) (x5 : Int32) (x7 : Int32) (x8 : Int32) (μ : wm_M) (Q : Option Value → wm_M → Prop) (h : (((864 : Int32) ≤ x8 → wm_Wp 0 107 107 [.ref 69, .null, .null, .null, .int x4, .int x5, .null, .null, .null] μ Q) ∧ (¬ (864 : Int32) ≤ x8 → ((x7 = (-1 : Int32) → wm_Wp 0 107 107 [.ref 69, .null, .null, .null, .int x4, .int x5, .null, .null, .null] μ Q) ∧ (¬ x7 = (-1 : Int32) → wm_OkV 0 109 [.ref 69, .int x7, .int x5] μ (fun μ1 => (vp_in x7 864 ∧ wm_Wp 0 107 70 [.ref 69, .null, .null, .null, .int x4, .int x5, .null, .int (μ1.1 71 (x7).toNatClampNeg), .int (x8 + (1 : Int32))] μ1 Q))))))) : wm_Wp 0 107 70 [.ref 69, .null, .null, .null, .int x4, .int x5, .null, .int x7, .int x8] μ Q := f_107_70 x4 x5 x7 x8 μ Q ⟨fun c3 => (h.1 c3), fun c3 => ⟨fun c2 => ((h.2 c3).1 c2), fun c2 => (wm_OkV.mono ((h.2 c3).2 c2) (fun μ1 h1 => (f_107_92 x4 x5 x7 x8 μ1 Q h1)))⟩⟩
-- .. at 107
set_option maxRecDepth 100000 in
theorem w_107_107 (x4 : Int32) (x5 : Int32) (μ : wm_M) (Q : Option Value → wm_M → Prop) (h : wm_Wp 0 107 32 [.ref 69, .null, .null, .null, .int x4, .int (x5 + (1 : Int32)), .null, .null, .null] μ Q) : wm_Wp 0 107 107 [.ref 69, .null, .null, .null, .int x4, .int x5, .null, .null, .null] μ Q := f_107_107 x4 x5 μ Q h
-- .. at 113
set_option maxRecDepth 100000 in
theorem w_107_113 (μ : wm_M) (Q : Option Value → wm_M → Prop) (h : Q (some (.int (-1 : Int32))) μ) : wm_Wp 0 107 113 [.null, .null, .null, .null, .null, .null, .null, .null, .null] μ Q := f_107_113  μ Q h
-- WindBoat$Ways.labelledIn(II)I
set_option maxRecDepth 100000 in
theorem v_108 (a1 : Int32) (a2 : Int32) (μ : wm_M) (Q : Option Value → wm_M → Prop) (h : wm_Wp 0 108 2 [.ref 69, .int a1, .int a2, .int (0 : Int32), .null] μ Q) : wm_Ok 0 108 [.ref 69, .int a1, .int a2] μ Q := f_108 a1 a2 μ Q h
-- .. at 2
set_option maxRecDepth 100000 in
theorem w_108_2 (x1 : Int32) (x2 : Int32) (x3 : Int32) (μ : wm_M) (Q : Option Value → wm_M → Prop) (h : (((24 : Int32) ≤ x3 → wm_Wp 0 108 36 [.null, .null, .null, .null, .null] μ Q) ∧ (¬ (24 : Int32) ≤ x3 → (vp_in ((x1 * (24 : Int32)) + x3) 864 ∧ (((μ.1 70 (((x1 * (24 : Int32)) + x3)).toNatClampNeg) = x2 → Q (some (.int ((x1 * (24 : Int32)) + x3))) μ) ∧ (¬ (μ.1 70 (((x1 * (24 : Int32)) + x3)).toNatClampNeg) = x2 → wm_Wp 0 108 30 [.ref 69, .int x1, .int x2, .int x3, .null] μ Q)))))) : wm_Wp 0 108 2 [.ref 69, .int x1, .int x2, .int x3, .null] μ Q := f_108_2 x1 x2 x3 μ Q ⟨fun c3 => (h.1 c3), fun c3 => ⟨(h.2 c3).1, ⟨fun c1 => (f_108_27 ((x1 * (24 : Int32)) + x3) μ Q ((h.2 c3).2.1 c1)), fun c1 => ((h.2 c3).2.2 c1)⟩⟩⟩
-- .. at 30
set_option maxRecDepth 100000 in
theorem w_108_30 (x1 : Int32) (x2 : Int32) (x3 : Int32) (μ : wm_M) (Q : Option Value → wm_M → Prop) (h : wm_Wp 0 108 2 [.ref 69, .int x1, .int x2, .int (x3 + (1 : Int32)), .null] μ Q) : wm_Wp 0 108 30 [.ref 69, .int x1, .int x2, .int x3, .null] μ Q := f_108_30 x1 x2 x3 μ Q h
-- .. at 36
set_option maxRecDepth 100000 in
theorem w_108_36 (μ : wm_M) (Q : Option Value → wm_M → Prop) (h : Q (some (.int (-1 : Int32))) μ) : wm_Wp 0 108 36 [.null, .null, .null, .null, .null] μ Q := f_108_36  μ Q h
-- WindBoat$Ways.spread(II)V
set_option maxRecDepth 100000 in
theorem v_109 (a1 : Int32) (a2 : Int32) (μ : wm_M) (Q : Option Value → wm_M → Prop) (h : (¬ (3 : Int32) = 0 ∧ (¬ (3 : Int32) = 0 ∧ (¬ (8 : Int32) = 0 ∧ (¬ (24 : Int32) = 0 ∧ wm_Wp 0 109 21 [.ref 69, .int a1, .int a2, .int (a1 - a1 / (3 : Int32) * (3 : Int32)), .int ((a1 / (3 : Int32)) - (a1 / (3 : Int32)) / (8 : Int32) * (8 : Int32)), .int (a1 / (24 : Int32)), .int (0 : Int32)] μ Q))))) : wm_Ok 0 109 [.ref 69, .int a1, .int a2] μ Q := f_109 a1 a2 μ Q ⟨h.1, ⟨h.2.1, ⟨h.2.2.1, ⟨h.2.2.2.1, (f_109_18 a1 a2 (a1 - a1 / (3 : Int32) * (3 : Int32)) ((a1 / (3 : Int32)) - (a1 / (3 : Int32)) / (8 : Int32) * (8 : Int32)) (a1 / (24 : Int32)) μ Q h.2.2.2.2)⟩⟩⟩⟩
-- .. at 21
set_option maxRecDepth 100000 in
theorem w_109_21 (x1 : Int32) (x2 : Int32) (x3 : Int32) (x4 : Int32) (x5 : Int32) (x6 : Int32) (μ : wm_M) (Q : Option Value → wm_M → Prop) (h : (((8 : Int32) ≤ x6 → wm_Wp 0 109 62 [.ref 69, .int x1, .int x2, .int x3, .int x4, .int x5, .null] μ Q) ∧ (¬ (8 : Int32) ≤ x6 → ((x6 = x4 → wm_Wp 0 109 56 [.ref 69, .int x1, .int x2, .int x3, .int x4, .int x5, .int x6] μ Q) ∧ (¬ x6 = x4 → wm_OkI 0 183 [.int x5, .int x6, .int x3] μ (fun r2 μ1 => wm_OkI 0 181 [.int x6, .int x4] μ1 (fun r4 μ3 => wm_OkV 0 110 [.ref 69, .int r2, .int (x2 + r4)] μ3 (fun μ5 => wm_Wp 0 109 56 [.ref 69, .int x1, .int x2, .int x3, .int x4, .int x5, .int x6] μ5 Q)))))))) : wm_Wp 0 109 21 [.ref 69, .int x1, .int x2, .int x3, .int x4, .int x5, .int x6] μ Q := f_109_21 x1 x2 x3 x4 x5 x6 μ Q h
-- .. at 56
set_option maxRecDepth 100000 in
theorem w_109_56 (x1 : Int32) (x2 : Int32) (x3 : Int32) (x4 : Int32) (x5 : Int32) (x6 : Int32) (μ : wm_M) (Q : Option Value → wm_M → Prop) (h : wm_Wp 0 109 21 [.ref 69, .int x1, .int x2, .int x3, .int x4, .int x5, .int (x6 + (1 : Int32))] μ Q) : wm_Wp 0 109 56 [.ref 69, .int x1, .int x2, .int x3, .int x4, .int x5, .int x6] μ Q := f_109_56 x1 x2 x3 x4 x5 x6 μ Q h
-- .. at 62
set_option maxRecDepth 100000 in
theorem w_109_62 (x1 : Int32) (x2 : Int32) (x3 : Int32) (x4 : Int32) (x5 : Int32) (μ : wm_M) (Q : Option Value → wm_M → Prop) (h : wm_Wp 0 109 65 [.ref 69, .int x1, .int x2, .int x3, .int x4, .int x5, .int (0 : Int32)] μ Q) : wm_Wp 0 109 62 [.ref 69, .int x1, .int x2, .int x3, .int x4, .int x5, .null] μ Q := f_109_62 x1 x2 x3 x4 x5 μ Q h
-- .. at 65
set_option maxRecDepth 100000 in
theorem w_109_65 (x1 : Int32) (x2 : Int32) (x3 : Int32) (x4 : Int32) (x5 : Int32) (x6 : Int32) (μ : wm_M) (Q : Option Value → wm_M → Prop) (h : (((μ.1 13 10) ≤ x6 → wm_Wp 0 109 124 [.ref 69, .null, .int x2, .int x3, .int x4, .int x5, .null] μ Q) ∧ (¬ (μ.1 13 10) ≤ x6 → ((x6 = x3 → wm_Wp 0 109 118 [.ref 69, .int x1, .int x2, .int x3, .int x4, .int x5, .int x6] μ Q) ∧ (¬ x6 = x3 → (vp_in x6 3 ∧ (((μ.1 15 (x6).toNatClampNeg) = (0 : Int32) → wm_OkV 0 110 [.ref 69, .int ((x1 - x3) + x6), .int (x2 + (μ.1 69 7))] μ (fun μ1 => wm_Wp 0 109 118 [.ref 69, .int x1, .int x2, .int x3, .int x4, .int x5, .int x6] μ1 Q)) ∧ (¬ (μ.1 15 (x6).toNatClampNeg) = (0 : Int32) → wm_Wp 0 109 118 [.ref 69, .int x1, .int x2, .int x3, .int x4, .int x5, .int x6] μ Q)))))))) : wm_Wp 0 109 65 [.ref 69, .int x1, .int x2, .int x3, .int x4, .int x5, .int x6] μ Q := f_109_65 x1 x2 x3 x4 x5 x6 μ Q ⟨fun c4 => (h.1 c4), fun c4 => ⟨fun c3 => ((h.2 c4).1 c3), fun c3 => ⟨((h.2 c4).2 c3).1, ⟨fun c1 => (f_109_102 x1 x2 x3 x4 x5 x6 μ Q (((h.2 c4).2 c3).2.1 c1)), fun c1 => (((h.2 c4).2 c3).2.2 c1)⟩⟩⟩⟩
-- .. at 118
set_option maxRecDepth 100000 in
theorem w_109_118 (x1 : Int32) (x2 : Int32) (x3 : Int32) (x4 : Int32) (x5 : Int32) (x6 : Int32) (μ : wm_M) (Q : Option Value → wm_M → Prop) (h : wm_Wp 0 109 65 [.ref 69, .int x1, .int x2, .int x3, .int x4, .int x5, .int (x6 + (1 : Int32))] μ Q) : wm_Wp 0 109 118 [.ref 69, .int x1, .int x2, .int x3, .int x4, .int x5, .int x6] μ Q := f_109_118 x1 x2 x3 x4 x5 x6 μ Q h
-- .. at 124
set_option maxRecDepth 100000 in
theorem w_109_124 (x2 : Int32) (x3 : Int32) (x4 : Int32) (x5 : Int32) (μ : wm_M) (Q : Option Value → wm_M → Prop) (h : (vp_in ((x5 * (8 : Int32)) + x4) 288 ∧ (((μ.1 68 (((x5 * (8 : Int32)) + x4)).toNatClampNeg) = (-1 : Int32) → wm_Wp 0 109 173 [.null, .null, .null, .null, .null, .null, .null] μ Q) ∧ (¬ (μ.1 68 (((x5 * (8 : Int32)) + x4)).toNatClampNeg) = (-1 : Int32) → wm_OkI 0 183 [.int (μ.1 68 (((x5 * (8 : Int32)) + x4)).toNatClampNeg), .int x4, .int x3] μ (fun r2 μ1 => wm_OkI 0 24 [.ref 62, .int x5, .int x4, .int x3, .int x2] μ1 (fun r4 μ3 => wm_OkV 0 110 [.ref 69, .int r2, .int r4] μ3 (fun μ5 => wm_Wp 0 109 173 [.null, .null, .null, .null, .null, .null, .null] μ5 Q))))))) : wm_Wp 0 109 124 [.ref 69, .null, .int x2, .int x3, .int x4, .int x5, .null] μ Q := f_109_124 x2 x3 x4 x5 μ Q ⟨h.1, ⟨fun c1 => (h.2.1 c1), fun c1 => (f_109_148 x2 x3 x4 x5 (μ.1 68 (((x5 * (8 : Int32)) + x4)).toNatClampNeg) μ Q (h.2.2 c1))⟩⟩
-- .. at 173
set_option maxRecDepth 100000 in
theorem w_109_173 (μ : wm_M) (Q : Option Value → wm_M → Prop) (h : Q none μ) : wm_Wp 0 109 173 [.null, .null, .null, .null, .null, .null, .null] μ Q := f_109_173  μ Q h
-- WindBoat$Ways.lower(II)V
set_option maxRecDepth 100000 in
theorem v_110 (a1 : Int32) (a2 : Int32) (μ : wm_M) (Q : Option Value → wm_M → Prop) (h : (((120 : Int32) < a2 → wm_Wp 0 110 16 [.null, .null, .null] μ Q) ∧ (¬ (120 : Int32) < a2 → (vp_in a1 864 ∧ ((a2 < (μ.1 70 (a1).toNatClampNeg) → wm_Wp 0 110 17 [.ref 69, .int a1, .int a2] μ Q) ∧ (¬ a2 < (μ.1 70 (a1).toNatClampNeg) → wm_Wp 0 110 16 [.null, .null, .null] μ Q)))))) : wm_Ok 0 110 [.ref 69, .int a1, .int a2] μ Q := f_110 a1 a2 μ Q h
-- .. at 16
set_option maxRecDepth 100000 in
theorem w_110_16 (μ : wm_M) (Q : Option Value → wm_M → Prop) (h : Q none μ) : wm_Wp 0 110 16 [.null, .null, .null] μ Q := f_110_16  μ Q h
-- .. at 17
set_option maxRecDepth 100000 in
theorem w_110_17 (x1 : Int32) (x2 : Int32) (μ : wm_M) (Q : Option Value → wm_M → Prop) (h : (vp_in x1 864 ∧ (((μ.1 70 (x1).toNatClampNeg) = (999 : Int32) → wm_Wp 0 110 34 [.ref 69, .int x1, .int x2] μ Q) ∧ (¬ (μ.1 70 (x1).toNatClampNeg) = (999 : Int32) → wm_OkV 0 111 [.ref 69, .int x1] μ (fun μ1 => wm_Wp 0 110 34 [.ref 69, .int x1, .int x2] μ1 Q))))) : wm_Wp 0 110 17 [.ref 69, .int x1, .int x2] μ Q := f_110_17 x1 x2 μ Q h
-- .. at 34
set_option maxRecDepth 100000 in
theorem w_110_34 (x1 : Int32) (x2 : Int32) (μ : wm_M) (Q : Option Value → wm_M → Prop) (h : (vp_in x1 864 ∧ (vp_in x1 864 ∧ (vp_in x2 121 ∧ (vp_in x1 864 ∧ (vp_in x2 121 ∧ ((((wm_si (wm_si (wm_si μ 70 (x1).toNatClampNeg x2) 72 (x1).toNatClampNeg (-1 : Int32)) 71 (x1).toNatClampNeg ((wm_si (wm_si μ 70 (x1).toNatClampNeg x2) 72 (x1).toNatClampNeg (-1 : Int32)).1 73 (x2).toNatClampNeg)).1 73 (x2).toNatClampNeg) = (-1 : Int32) → wm_Wp 0 110 82 [.ref 69, .int x1, .int x2] (wm_si (wm_si (wm_si μ 70 (x1).toNatClampNeg x2) 72 (x1).toNatClampNeg (-1 : Int32)) 71 (x1).toNatClampNeg ((wm_si (wm_si μ 70 (x1).toNatClampNeg x2) 72 (x1).toNatClampNeg (-1 : Int32)).1 73 (x2).toNatClampNeg)) Q) ∧ (¬ ((wm_si (wm_si (wm_si μ 70 (x1).toNatClampNeg x2) 72 (x1).toNatClampNeg (-1 : Int32)) 71 (x1).toNatClampNeg ((wm_si (wm_si μ 70 (x1).toNatClampNeg x2) 72 (x1).toNatClampNeg (-1 : Int32)).1 73 (x2).toNatClampNeg)).1 73 (x2).toNatClampNeg) = (-1 : Int32) → (vp_in x2 121 ∧ (vp_in ((wm_si (wm_si (wm_si μ 70 (x1).toNatClampNeg x2) 72 (x1).toNatClampNeg (-1 : Int32)) 71 (x1).toNatClampNeg ((wm_si (wm_si μ 70 (x1).toNatClampNeg x2) 72 (x1).toNatClampNeg (-1 : Int32)).1 73 (x2).toNatClampNeg)).1 73 (x2).toNatClampNeg) 864 ∧ wm_Wp 0 110 82 [.ref 69, .int x1, .int x2] (wm_si (wm_si (wm_si (wm_si μ 70 (x1).toNatClampNeg x2) 72 (x1).toNatClampNeg (-1 : Int32)) 71 (x1).toNatClampNeg ((wm_si (wm_si μ 70 (x1).toNatClampNeg x2) 72 (x1).toNatClampNeg (-1 : Int32)).1 73 (x2).toNatClampNeg)) 72 (((wm_si (wm_si (wm_si μ 70 (x1).toNatClampNeg x2) 72 (x1).toNatClampNeg (-1 : Int32)) 71 (x1).toNatClampNeg ((wm_si (wm_si μ 70 (x1).toNatClampNeg x2) 72 (x1).toNatClampNeg (-1 : Int32)).1 73 (x2).toNatClampNeg)).1 73 (x2).toNatClampNeg)).toNatClampNeg x1) Q)))))))))) : wm_Wp 0 110 34 [.ref 69, .int x1, .int x2] μ Q := f_110_34 x1 x2 μ Q ⟨h.1, (f_110_41 x1 x2 (wm_si μ 70 (x1).toNatClampNeg x2) Q ⟨h.2.1, (f_110_48 x1 x2 (wm_si (wm_si μ 70 (x1).toNatClampNeg x2) 72 (x1).toNatClampNeg (-1 : Int32)) Q ⟨h.2.2.1, ⟨h.2.2.2.1, (f_110_60 x1 x2 (wm_si (wm_si (wm_si μ 70 (x1).toNatClampNeg x2) 72 (x1).toNatClampNeg (-1 : Int32)) 71 (x1).toNatClampNeg ((wm_si (wm_si μ 70 (x1).toNatClampNeg x2) 72 (x1).toNatClampNeg (-1 : Int32)).1 73 (x2).toNatClampNeg)) Q h.2.2.2.2)⟩⟩)⟩)⟩
-- .. at 82
set_option maxRecDepth 100000 in
theorem w_110_82 (x1 : Int32) (x2 : Int32) (μ : wm_M) (Q : Option Value → wm_M → Prop) (h : (vp_in x2 121 ∧ Q none (wm_si μ 73 (x2).toNatClampNeg x1))) : wm_Wp 0 110 82 [.ref 69, .int x1, .int x2] μ Q := f_110_82 x1 x2 μ Q ⟨h.1, (f_110_89  (wm_si μ 73 (x2).toNatClampNeg x1) Q h.2)⟩
-- WindBoat$Ways.unlink(I)V
set_option maxRecDepth 100000 in
theorem v_111 (a1 : Int32) (μ : wm_M) (Q : Option Value → wm_M → Prop) (h : (vp_in a1 864 ∧ (((μ.1 72 (a1).toNatClampNeg) = (-1 : Int32) → (vp_in a1 864 ∧ (vp_in a1 864 ∧ (vp_in (μ.1 70 (a1).toNatClampNeg) 121 ∧ wm_Wp 0 111 47 [.ref 69, .int a1] (wm_si μ 73 ((μ.1 70 (a1).toNatClampNeg)).toNatClampNeg (μ.1 71 (a1).toNatClampNeg)) Q)))) ∧ (¬ (μ.1 72 (a1).toNatClampNeg) = (-1 : Int32) → wm_Wp 0 111 30 [.ref 69, .int a1] μ Q)))) : wm_Ok 0 111 [.ref 69, .int a1] μ Q := f_111 a1 μ Q ⟨h.1, ⟨fun c4 => ⟨(h.2.1 c4).1, ⟨(h.2.1 c4).2.1, ⟨(h.2.1 c4).2.2.1, (f_111_27 a1 (wm_si μ 73 ((μ.1 70 (a1).toNatClampNeg)).toNatClampNeg (μ.1 71 (a1).toNatClampNeg)) Q (h.2.1 c4).2.2.2)⟩⟩⟩, fun c4 => (h.2.2 c4)⟩⟩
-- .. at 30
set_option maxRecDepth 100000 in
theorem w_111_30 (x1 : Int32) (μ : wm_M) (Q : Option Value → wm_M → Prop) (h : (vp_in x1 864 ∧ (vp_in x1 864 ∧ (vp_in (μ.1 72 (x1).toNatClampNeg) 864 ∧ wm_Wp 0 111 47 [.ref 69, .int x1] (wm_si μ 71 ((μ.1 72 (x1).toNatClampNeg)).toNatClampNeg (μ.1 71 (x1).toNatClampNeg)) Q)))) : wm_Wp 0 111 30 [.ref 69, .int x1] μ Q := f_111_30 x1 μ Q h
-- .. at 47
set_option maxRecDepth 100000 in
theorem w_111_47 (x1 : Int32) (μ : wm_M) (Q : Option Value → wm_M → Prop) (h : (vp_in x1 864 ∧ (((μ.1 71 (x1).toNatClampNeg) = (-1 : Int32) → wm_Wp 0 111 74 [.null, .null] μ Q) ∧ (¬ (μ.1 71 (x1).toNatClampNeg) = (-1 : Int32) → (vp_in x1 864 ∧ (vp_in x1 864 ∧ (vp_in (μ.1 71 (x1).toNatClampNeg) 864 ∧ wm_Wp 0 111 74 [.null, .null] (wm_si μ 72 ((μ.1 71 (x1).toNatClampNeg)).toNatClampNeg (μ.1 72 (x1).toNatClampNeg)) Q))))))) : wm_Wp 0 111 47 [.ref 69, .int x1] μ Q := f_111_47 x1 μ Q h
-- .. at 74
set_option maxRecDepth 100000 in
theorem w_111_74 (μ : wm_M) (Q : Option Value → wm_M → Prop) (h : Q none μ) : wm_Wp 0 111 74 [.null, .null] μ Q := f_111_74  μ Q h
-- WindBoat$Ways.makePlan(IIII)I
set_option maxRecDepth 100000 in
theorem v_112 (a1 : Int32) (a2 : Int32) (a3 : Int32) (a4 : Int32) (μ : wm_M) (Q : Option Value → wm_M → Prop) (h : wm_OkI 0 107 [.ref 69, .int a1, .int a2, .int a3, .int a4] μ (fun r2 μ1 => ((r2 = (-1 : Int32) → Q (some (.int (-1 : Int32))) μ1) ∧ (¬ r2 = (-1 : Int32) → wm_Wp 0 112 19 [.ref 69, .int a1, .null, .null, .null, .int r2, .null, .null, .null] μ1 Q)))) : wm_Ok 0 112 [.ref 69, .int a1, .int a2, .int a3, .int a4] μ Q := f_112 a1 a2 a3 a4 μ Q (wm_OkI.mono h (fun r2 μ1 h1 => (f_112_11 a1 r2 μ1 Q h1)))
-- .. at 19
set_option maxRecDepth 100000 in
theorem w_112_19 (x1 : Int32) (x5 : Int32) (μ : wm_M) (Q : Option Value → wm_M → Prop) (h : wm_Wp 0 112 25 [.ref 69, .int x1, .null, .null, .null, .int x5, .int (0 : Int32), .int (0 : Int32), .null] μ Q) : wm_Wp 0 112 19 [.ref 69, .int x1, .null, .null, .null, .int x5, .null, .null, .null] μ Q := f_112_19 x1 x5 μ Q h
-- .. at 25
set_option maxRecDepth 100000 in
theorem w_112_25 (x1 : Int32) (x5 : Int32) (x6 : Int32) (x7 : Int32) (μ : wm_M) (Q : Option Value → wm_M → Prop) (h : (((120 : Int32) ≤ x7 → wm_Wp 0 112 102 [.ref 69, .null, .null, .null, .null, .null, .int x6, .null, .null] μ Q) ∧ (¬ (120 : Int32) ≤ x7 → ((x5 = x1 → wm_Wp 0 112 102 [.ref 69, .null, .null, .null, .null, .null, .int x6, .null, .null] μ Q) ∧ (¬ x5 = x1 → wm_OkI 0 114 [.ref 69, .int x5] μ (fun r2 μ1 => ((r2 = (-1 : Int32) → Q (some (.int (-1 : Int32))) μ1) ∧ (¬ r2 = (-1 : Int32) → wm_Wp 0 112 54 [.ref 69, .int x1, .null, .null, .null, .int x5, .int x6, .int x7, .int r2] μ1 Q)))))))) : wm_Wp 0 112 25 [.ref 69, .int x1, .null, .null, .null, .int x5, .int x6, .int x7, .null] μ Q := f_112_25 x1 x5 x6 x7 μ Q ⟨fun c3 => (h.1 c3), fun c3 => ⟨fun c2 => ((h.2 c3).1 c2), fun c2 => (wm_OkI.mono ((h.2 c3).2 c2) (fun r2 μ1 h1 => (f_112_46 x1 x5 x6 x7 r2 μ1 Q h1)))⟩⟩
-- .. at 54
set_option maxRecDepth 100000 in
theorem w_112_54 (x1 : Int32) (x5 : Int32) (x6 : Int32) (x7 : Int32) (x8 : Int32) (μ : wm_M) (Q : Option Value → wm_M → Prop) (h : (¬ (24 : Int32) = 0 ∧ (¬ (24 : Int32) = 0 ∧ (((x8 / (24 : Int32)) = (x5 / (24 : Int32)) → wm_Wp 0 112 92 [.ref 69, .int x1, .null, .null, .null, .null, .int x6, .int x7, .int x8] μ Q) ∧ (¬ (x8 / (24 : Int32)) = (x5 / (24 : Int32)) → (¬ (3 : Int32) = 0 ∧ (¬ (8 : Int32) = 0 ∧ (¬ (3 : Int32) = 0 ∧ (vp_in x6 121 ∧ wm_Wp 0 112 92 [.ref 69, .int x1, .null, .null, .null, .null, .int (x6 + (1 : Int32)), .int x7, .int x8] (wm_si μ 74 (x6).toNatClampNeg (((10 : Int32) * ((x5 / (3 : Int32)) - (x5 / (3 : Int32)) / (8 : Int32) * (8 : Int32))) + (x5 - x5 / (3 : Int32) * (3 : Int32)))) Q))))))))) : wm_Wp 0 112 54 [.ref 69, .int x1, .null, .null, .null, .int x5, .int x6, .int x7, .int x8] μ Q := f_112_54 x1 x5 x6 x7 x8 μ Q ⟨h.1, ⟨h.2.1, ⟨fun c5 => (h.2.2.1 c5), fun c5 => ⟨(h.2.2.2 c5).1, ⟨(h.2.2.2 c5).2.1, ⟨(h.2.2.2 c5).2.2.1, ⟨(h.2.2.2 c5).2.2.2.1, (f_112_89 x1 x6 x7 x8 (wm_si μ 74 (x6).toNatClampNeg (((10 : Int32) * ((x5 / (3 : Int32)) - (x5 / (3 : Int32)) / (8 : Int32) * (8 : Int32))) + (x5 - x5 / (3 : Int32) * (3 : Int32)))) Q (h.2.2.2 c5).2.2.2.2)⟩⟩⟩⟩⟩⟩⟩
-- .. at 92
set_option maxRecDepth 100000 in
theorem w_112_92 (x1 : Int32) (x6 : Int32) (x7 : Int32) (x8 : Int32) (μ : wm_M) (Q : Option Value → wm_M → Prop) (h : wm_Wp 0 112 25 [.ref 69, .int x1, .null, .null, .null, .int x8, .int x6, .int (x7 + (1 : Int32)), .null] μ Q) : wm_Wp 0 112 92 [.ref 69, .int x1, .null, .null, .null, .null, .int x6, .int x7, .int x8] μ Q := f_112_92 x1 x6 x7 x8 μ Q h
-- .. at 102
set_option maxRecDepth 100000 in
theorem w_112_102 (x6 : Int32) (μ : wm_M) (Q : Option Value → wm_M → Prop) (h : wm_OkV 0 113 [.ref 69, .int x6] μ (fun μ1 => Q (some (.int x6)) μ1)) : wm_Wp 0 112 102 [.ref 69, .null, .null, .null, .null, .null, .int x6, .null, .null] μ Q := f_112_102 x6 μ Q (wm_OkV.mono h (fun μ1 h1 => (f_112_108 x6 μ1 Q h1)))
-- WindBoat$Ways.turnRound(I)V
set_option maxRecDepth 100000 in
theorem v_113 (a1 : Int32) (μ : wm_M) (Q : Option Value → wm_M → Prop) (h : wm_Wp 0 113 2 [.ref 69, .int a1, .int (0 : Int32)] μ Q) : wm_Ok 0 113 [.ref 69, .int a1] μ Q := f_113 a1 μ Q h
-- .. at 2
set_option maxRecDepth 100000 in
theorem w_113_2 (x1 : Int32) (x2 : Int32) (μ : wm_M) (Q : Option Value → wm_M → Prop) (h : (¬ (2 : Int32) = 0 ∧ (((x1 / (2 : Int32)) ≤ x2 → wm_Wp 0 113 43 [.null, .null, .null] μ Q) ∧ (¬ (x1 / (2 : Int32)) ≤ x2 → (vp_in ((x1 - (1 : Int32)) - x2) 121 ∧ wm_OkI 0 179 [.ref 74, .int x2, .int (μ.1 74 (((x1 - (1 : Int32)) - x2)).toNatClampNeg)] μ (fun r2 μ1 => (vp_in ((x1 - (1 : Int32)) - x2) 121 ∧ wm_Wp 0 113 2 [.ref 69, .int x1, .int (x2 + (1 : Int32))] (wm_si μ1 74 (((x1 - (1 : Int32)) - x2)).toNatClampNeg r2) Q))))))) : wm_Wp 0 113 2 [.ref 69, .int x1, .int x2] μ Q := f_113_2 x1 x2 μ Q ⟨h.1, ⟨fun c4 => (h.2.1 c4), fun c4 => ⟨(h.2.2 c4).1, (wm_OkI.mono (h.2.2 c4).2 (fun r2 μ1 h2 => ⟨h2.1, (f_113_37 x1 x2 (wm_si μ1 74 (((x1 - (1 : Int32)) - x2)).toNatClampNeg r2) Q h2.2)⟩))⟩⟩⟩
-- .. at 43
set_option maxRecDepth 100000 in
theorem w_113_43 (μ : wm_M) (Q : Option Value → wm_M → Prop) (h : Q none μ) : wm_Wp 0 113 43 [.null, .null, .null] μ Q := f_113_43  μ Q h
-- WindBoat$Ways.cameFrom(I)I
set_option maxRecDepth 100000 in
theorem v_114 (a1 : Int32) (μ : wm_M) (Q : Option Value → wm_M → Prop) (h : (¬ (3 : Int32) = 0 ∧ (¬ (3 : Int32) = 0 ∧ (¬ (8 : Int32) = 0 ∧ (¬ (24 : Int32) = 0 ∧ wm_Wp 0 114 25 [.ref 69, .int a1, .int (a1 - a1 / (3 : Int32) * (3 : Int32)), .int ((a1 / (3 : Int32)) - (a1 / (3 : Int32)) / (8 : Int32) * (8 : Int32)), .int (a1 / (24 : Int32)), .int (864 : Int32), .int (0 : Int32), .null] μ Q))))) : wm_Ok 0 114 [.ref 69, .int a1] μ Q := f_114 a1 μ Q ⟨h.1, ⟨h.2.1, ⟨h.2.2.1, ⟨h.2.2.2.1, (f_114_17 a1 (a1 - a1 / (3 : Int32) * (3 : Int32)) ((a1 / (3 : Int32)) - (a1 / (3 : Int32)) / (8 : Int32) * (8 : Int32)) (a1 / (24 : Int32)) μ Q h.2.2.2.2)⟩⟩⟩⟩
-- .. at 25
set_option maxRecDepth 100000 in
theorem w_114_25 (x1 : Int32) (x2 : Int32) (x3 : Int32) (x4 : Int32) (x5 : Int32) (x6 : Int32) (μ : wm_M) (Q : Option Value → wm_M → Prop) (h : (((8 : Int32) ≤ x6 → wm_Wp 0 114 86 [.ref 69, .int x1, .int x2, .int x3, .int x4, .int x5, .null, .null] μ Q) ∧ (¬ (8 : Int32) ≤ x6 → wm_OkI 0 183 [.int x4, .int x6, .int x2] μ (fun r2 μ1 => ((x6 = x3 → wm_Wp 0 114 80 [.ref 69, .int x1, .int x2, .int x3, .int x4, .int x5, .int x6, .null] μ1 Q) ∧ (¬ x6 = x3 → (vp_in r2 864 ∧ wm_OkI 0 181 [.int x6, .int x3] μ1 (fun r4 μ3 => (vp_in x1 864 ∧ (((μ3.1 70 (x1).toNatClampNeg) < ((μ1.1 70 (r2).toNatClampNeg) + r4) → wm_Wp 0 114 80 [.ref 69, .int x1, .int x2, .int x3, .int x4, .int x5, .int x6, .null] μ3 Q) ∧ (¬ (μ3.1 70 (x1).toNatClampNeg) < ((μ1.1 70 (r2).toNatClampNeg) + r4) → wm_Wp 0 114 80 [.ref 69, .int x1, .int x2, .int x3, .int x4, .int (if r2 < x5 then r2 else x5), .int x6, .null] μ3 Q))))))))))) : wm_Wp 0 114 25 [.ref 69, .int x1, .int x2, .int x3, .int x4, .int x5, .int x6, .null] μ Q := f_114_25 x1 x2 x3 x4 x5 x6 μ Q ⟨fun c7 => (h.1 c7), fun c7 => (wm_OkI.mono (h.2 c7) (fun r2 μ1 h6 => (f_114_42 x1 x2 x3 x4 x5 x6 r2 μ1 Q ⟨fun c5 => (h6.1 c5), fun c5 => ⟨(h6.2 c5).1, (wm_OkI.mono (h6.2 c5).2 (fun r4 μ3 h3 => ⟨h3.1, ⟨fun c1 => (h3.2.1 c1), fun c1 => (f_114_71 x1 x2 x3 x4 x5 x6 r2 μ3 Q (h3.2.2 c1))⟩⟩))⟩⟩)))⟩
-- .. at 80
set_option maxRecDepth 100000 in
theorem w_114_80 (x1 : Int32) (x2 : Int32) (x3 : Int32) (x4 : Int32) (x5 : Int32) (x6 : Int32) (μ : wm_M) (Q : Option Value → wm_M → Prop) (h : wm_Wp 0 114 25 [.ref 69, .int x1, .int x2, .int x3, .int x4, .int x5, .int (x6 + (1 : Int32)), .null] μ Q) : wm_Wp 0 114 80 [.ref 69, .int x1, .int x2, .int x3, .int x4, .int x5, .int x6, .null] μ Q := f_114_80 x1 x2 x3 x4 x5 x6 μ Q h
-- .. at 86
set_option maxRecDepth 100000 in
theorem w_114_86 (x1 : Int32) (x2 : Int32) (x3 : Int32) (x4 : Int32) (x5 : Int32) (μ : wm_M) (Q : Option Value → wm_M → Prop) (h : wm_Wp 0 114 89 [.ref 69, .int x1, .int x2, .int x3, .int x4, .int x5, .int (0 : Int32), .null] μ Q) : wm_Wp 0 114 86 [.ref 69, .int x1, .int x2, .int x3, .int x4, .int x5, .null, .null] μ Q := f_114_86 x1 x2 x3 x4 x5 μ Q h
-- .. at 89
set_option maxRecDepth 100000 in
theorem w_114_89 (x1 : Int32) (x2 : Int32) (x3 : Int32) (x4 : Int32) (x5 : Int32) (x6 : Int32) (μ : wm_M) (Q : Option Value → wm_M → Prop) (h : (((3 : Int32) ≤ x6 → wm_Wp 0 114 160 [.ref 69, .int x1, .int x2, .int x3, .int x4, .int x5, .null, .null] μ Q) ∧ (¬ (3 : Int32) ≤ x6 → (vp_in x2 3 ∧ (((μ.1 15 (x2).toNatClampNeg) = (0 : Int32) → ((x6 = x2 → wm_Wp 0 114 154 [.ref 69, .int x1, .int x2, .int x3, .int x4, .int x5, .int x6, .null] μ Q) ∧ (¬ x6 = x2 → (vp_in ((x1 - x2) + x6) 864 ∧ (vp_in x1 864 ∧ (((μ.1 70 (x1).toNatClampNeg) < ((μ.1 70 (((x1 - x2) + x6)).toNatClampNeg) + (μ.1 69 7)) → wm_Wp 0 114 154 [.ref 69, .int x1, .int x2, .int x3, .int x4, .int x5, .int x6, .null] μ Q) ∧ (¬ (μ.1 70 (x1).toNatClampNeg) < ((μ.1 70 (((x1 - x2) + x6)).toNatClampNeg) + (μ.1 69 7)) → wm_Wp 0 114 154 [.ref 69, .int x1, .int x2, .int x3, .int x4, .int (if ((x1 - x2) + x6) < x5 then ((x1 - x2) + x6) else x5), .int x6, .null] μ Q))))))) ∧ (¬ (μ.1 15 (x2).toNatClampNeg) = (0 : Int32) → wm_Wp 0 114 160 [.ref 69, .int x1, .int x2, .int x3, .int x4, .int x5, .null, .null] μ Q)))))) : wm_Wp 0 114 89 [.ref 69, .int x1, .int x2, .int x3, .int x4, .int x5, .int x6, .null] μ Q := f_114_89 x1 x2 x3 x4 x5 x6 μ Q ⟨fun c7 => (h.1 c7), fun c7 => ⟨(h.2 c7).1, ⟨fun c5 => (f_114_118 x1 x2 x3 x4 x5 x6 ((x1 - x2) + x6) μ Q ⟨fun c4 => (((h.2 c7).2.1 c5).1 c4), fun c4 => ⟨(((h.2 c7).2.1 c5).2 c4).1, ⟨(((h.2 c7).2.1 c5).2 c4).2.1, ⟨fun c1 => ((((h.2 c7).2.1 c5).2 c4).2.2.1 c1), fun c1 => (f_114_145 x1 x2 x3 x4 x5 x6 ((x1 - x2) + x6) μ Q ((((h.2 c7).2.1 c5).2 c4).2.2.2 c1))⟩⟩⟩⟩), fun c5 => ((h.2 c7).2.2 c5)⟩⟩⟩
-- .. at 154
set_option maxRecDepth 100000 in
theorem w_114_154 (x1 : Int32) (x2 : Int32) (x3 : Int32) (x4 : Int32) (x5 : Int32) (x6 : Int32) (μ : wm_M) (Q : Option Value → wm_M → Prop) (h : wm_Wp 0 114 89 [.ref 69, .int x1, .int x2, .int x3, .int x4, .int x5, .int (x6 + (1 : Int32)), .null] μ Q) : wm_Wp 0 114 154 [.ref 69, .int x1, .int x2, .int x3, .int x4, .int x5, .int x6, .null] μ Q := f_114_154 x1 x2 x3 x4 x5 x6 μ Q h
-- .. at 160
set_option maxRecDepth 100000 in
theorem w_114_160 (x1 : Int32) (x2 : Int32) (x3 : Int32) (x4 : Int32) (x5 : Int32) (μ : wm_M) (Q : Option Value → wm_M → Prop) (h : (¬ (8 : Int32) = 0 ∧ wm_OkI 0 182 [.int x4, .int ((x3 + (4 : Int32)) - (x3 + (4 : Int32)) / (8 : Int32) * (8 : Int32))] μ (fun r2 μ1 => ((r2 = (-1 : Int32) → wm_Wp 0 114 240 [.null, .null, .null, .null, .null, .int x5, .null, .null] μ1 Q) ∧ (¬ r2 = (-1 : Int32) → wm_OkI 0 183 [.int r2, .int x3, .int x2] μ1 (fun r4 μ3 => (vp_in r4 864 ∧ (vp_in x1 864 ∧ (((μ3.1 70 (x1).toNatClampNeg) ≤ (μ3.1 70 (r4).toNatClampNeg) → wm_Wp 0 114 240 [.null, .null, .null, .null, .null, .int x5, .null, .null] μ3 Q) ∧ (¬ (μ3.1 70 (x1).toNatClampNeg) ≤ (μ3.1 70 (r4).toNatClampNeg) → (vp_in r4 864 ∧ (vp_in x1 864 ∧ wm_OkI 0 25 [.ref 62, .int r2, .int x3, .int x2, .int (μ3.1 70 (r4).toNatClampNeg), .int (μ3.1 70 (x1).toNatClampNeg)] μ3 (fun r6 μ5 => ((r6 = (0 : Int32) → wm_Wp 0 114 240 [.null, .null, .null, .null, .null, .int x5, .null, .null] μ5 Q) ∧ (¬ r6 = (0 : Int32) → wm_Wp 0 114 240 [.null, .null, .null, .null, .null, .int (if r4 < x5 then r4 else x5), .null, .null] μ5 Q))))))))))))))) : wm_Wp 0 114 160 [.ref 69, .int x1, .int x2, .int x3, .int x4, .int x5, .null, .null] μ Q := f_114_160 x1 x2 x3 x4 x5 μ Q ⟨h.1, (wm_OkI.mono h.2 (fun r2 μ1 h10 => (f_114_173 x1 x2 x3 x5 r2 μ1 Q ⟨fun c9 => (h10.1 c9), fun c9 => (wm_OkI.mono (h10.2 c9) (fun r4 μ3 h8 => (f_114_188 x1 x2 x3 x5 r2 r4 μ3 Q ⟨h8.1, ⟨h8.2.1, ⟨fun c5 => (h8.2.2.1 c5), fun c5 => ⟨(h8.2.2.2 c5).1, ⟨(h8.2.2.2 c5).2.1, (wm_OkI.mono (h8.2.2.2 c5).2.2 (fun r6 μ5 h2 => ⟨fun c1 => (h2.1 c1), fun c1 => (f_114_231 x5 r4 μ5 Q (h2.2 c1))⟩))⟩⟩⟩⟩⟩)))⟩)))⟩
-- .. at 240
set_option maxRecDepth 100000 in
theorem w_114_240 (x5 : Int32) (μ : wm_M) (Q : Option Value → wm_M → Prop) (h : ((x5 = (864 : Int32) → Q (some (.int (-1 : Int32))) μ) ∧ (¬ x5 = (864 : Int32) → wm_Wp 0 114 252 [.null, .null, .null, .null, .null, .int x5, .null, .null] μ Q))) : wm_Wp 0 114 240 [.null, .null, .null, .null, .null, .int x5, .null, .null] μ Q := f_114_240 x5 μ Q h
-- .. at 252
set_option maxRecDepth 100000 in
theorem w_114_252 (x5 : Int32) (μ : wm_M) (Q : Option Value → wm_M → Prop) (h : Q (some (.int x5)) μ) : wm_Wp 0 114 252 [.null, .null, .null, .null, .null, .int x5, .null, .null] μ Q := f_114_252 x5 μ Q h
-- WindBoat.cell(III)I
set_option maxRecDepth 100000 in
theorem v_116 (a1 : Int32) (a2 : Int32) (a3 : Int32) (μ : wm_M) (Q : Option Value → wm_M → Prop) (h : wm_OkI 0 167 [.int a1] μ (fun r2 μ1 => ((r2 = (0 : Int32) → wm_OkI 0 161 [.ref 0, .int (-3 : Int32)] μ1 (fun r4 μ3 => Q (some (.int r4)) μ3)) ∧ (¬ r2 = (0 : Int32) → wm_Wp 0 116 14 [.ref 0, .int a1, .int a2, .int a3, .null, .null] μ1 Q)))) : wm_Ok 0 116 [.ref 0, .int a1, .int a2, .int a3] μ Q := f_116 a1 a2 a3 μ Q (wm_OkI.mono h (fun r2 μ1 h2 => ⟨fun c1 => (f_116_7  μ1 Q (h2.1 c1)), fun c1 => (h2.2 c1)⟩))
-- .. at 14
set_option maxRecDepth 100000 in
theorem w_116_14 (x1 : Int32) (x2 : Int32) (x3 : Int32) (μ : wm_M) (Q : Option Value → wm_M → Prop) (h : wm_OkI 0 176 [.int x2] μ (fun r2 μ1 => ((r2 = (0 : Int32) → wm_Wp 0 116 31 [.ref 0, .null, .null, .null, .null, .null] μ1 Q) ∧ (¬ r2 = (0 : Int32) → wm_OkI 0 178 [.int x3, .int (0 : Int32), .int (90 : Int32)] μ1 (fun r4 μ3 => ((r4 = (0 : Int32) → wm_Wp 0 116 31 [.ref 0, .null, .null, .null, .null, .null] μ3 Q) ∧ (¬ r4 = (0 : Int32) → wm_Wp 0 116 38 [.ref 0, .int x1, .int x2, .int x3, .null, .null] μ3 Q))))))) : wm_Wp 0 116 14 [.ref 0, .int x1, .int x2, .int x3, .null, .null] μ Q := f_116_14 x1 x2 x3 μ Q (wm_OkI.mono h (fun r2 μ1 h2 => ⟨fun c1 => (h2.1 c1), fun c1 => (f_116_21 x1 x2 x3 μ1 Q (h2.2 c1))⟩))
-- .. at 31
set_option maxRecDepth 100000 in
theorem w_116_31 (μ : wm_M) (Q : Option Value → wm_M → Prop) (h : wm_OkI 0 161 [.ref 0, .int (-7 : Int32)] μ (fun r2 μ1 => Q (some (.int r2)) μ1)) : wm_Wp 0 116 31 [.ref 0, .null, .null, .null, .null, .null] μ Q := f_116_31  μ Q h
-- .. at 38
set_option maxRecDepth 100000 in
theorem w_116_38 (x1 : Int32) (x2 : Int32) (x3 : Int32) (μ : wm_M) (Q : Option Value → wm_M → Prop) (h : wm_OkR 0 163 [.ref 0] μ (fun μ1 => (vp_in x1 36 ∧ ((x2 = (1 : Int32) → (vp_in x1 36 ∧ (vp_in x1 36 ∧ wm_OkI 0 177 [.int (μ1.1 3 (x1).toNatClampNeg)] (wm_si (wm_si μ1 3 (x1).toNatClampNeg (vp_nar .boolean (1 : Int32))) 4 (x1).toNatClampNeg x3) (fun r3 μ2 => Q (some (.int r3)) μ2)))) ∧ (¬ x2 = (1 : Int32) → (vp_in x1 36 ∧ (vp_in x1 36 ∧ wm_OkI 0 177 [.int (μ1.1 3 (x1).toNatClampNeg)] (wm_si (wm_si μ1 3 (x1).toNatClampNeg (vp_nar .boolean (0 : Int32))) 4 (x1).toNatClampNeg x3) (fun r5 μ4 => Q (some (.int r5)) μ4)))))))) : wm_Wp 0 116 38 [.ref 0, .int x1, .int x2, .int x3, .null, .null] μ Q := f_116_38 x1 x2 x3 μ Q (wm_OkR.mono h (fun μ1 h7 => (f_116_47 x1 x2 x3 μ1 Q ⟨h7.1, ⟨fun c5 => ⟨(h7.2.1 c5).1, (f_116_73 x1 x3 (μ1.1 3 (x1).toNatClampNeg) (wm_si μ1 3 (x1).toNatClampNeg (vp_nar .boolean (1 : Int32))) Q ⟨(h7.2.1 c5).2.1, (f_116_81 (μ1.1 3 (x1).toNatClampNeg) (wm_si (wm_si μ1 3 (x1).toNatClampNeg (vp_nar .boolean (1 : Int32))) 4 (x1).toNatClampNeg x3) Q (h7.2.1 c5).2.2)⟩)⟩, fun c5 => ⟨(h7.2.2 c5).1, (f_116_73 x1 x3 (μ1.1 3 (x1).toNatClampNeg) (wm_si μ1 3 (x1).toNatClampNeg (vp_nar .boolean (0 : Int32))) Q ⟨(h7.2.2 c5).2.1, (f_116_81 (μ1.1 3 (x1).toNatClampNeg) (wm_si (wm_si μ1 3 (x1).toNatClampNeg (vp_nar .boolean (0 : Int32))) 4 (x1).toNatClampNeg x3) Q (h7.2.2 c5).2.2)⟩)⟩⟩⟩)))
-- WindBoat.wind(III)I
set_option maxRecDepth 100000 in
theorem v_117 (a1 : Int32) (a2 : Int32) (a3 : Int32) (μ : wm_M) (Q : Option Value → wm_M → Prop) (h : wm_OkI 0 171 [.int a1] μ (fun r2 μ1 => ((r2 = (0 : Int32) → wm_OkI 0 161 [.ref 0, .int (-3 : Int32)] μ1 (fun r4 μ3 => Q (some (.int r4)) μ3)) ∧ (¬ r2 = (0 : Int32) → wm_Wp 0 117 14 [.ref 0, .int a1, .int a2, .int a3, .null, .null, .null] μ1 Q)))) : wm_Ok 0 117 [.ref 0, .int a1, .int a2, .int a3] μ Q := f_117 a1 a2 a3 μ Q (wm_OkI.mono h (fun r2 μ1 h2 => ⟨fun c1 => (f_117_7  μ1 Q (h2.1 c1)), fun c1 => (h2.2 c1)⟩))
-- .. at 14
set_option maxRecDepth 100000 in
theorem w_117_14 (x1 : Int32) (x2 : Int32) (x3 : Int32) (μ : wm_M) (Q : Option Value → wm_M → Prop) (h : wm_OkI 0 178 [.int x2, .int (0 : Int32), .int (7 : Int32)] μ (fun r2 μ1 => ((r2 = (0 : Int32) → wm_Wp 0 117 34 [.ref 0, .null, .null, .null, .null, .null, .null] μ1 Q) ∧ (¬ r2 = (0 : Int32) → wm_OkI 0 178 [.int x3, .int (0 : Int32), .int (39 : Int32)] μ1 (fun r4 μ3 => ((r4 = (0 : Int32) → wm_Wp 0 117 34 [.ref 0, .null, .null, .null, .null, .null, .null] μ3 Q) ∧ (¬ r4 = (0 : Int32) → wm_Wp 0 117 41 [.ref 0, .int x1, .int x2, .int x3, .null, .null, .null] μ3 Q))))))) : wm_Wp 0 117 14 [.ref 0, .int x1, .int x2, .int x3, .null, .null, .null] μ Q := f_117_14 x1 x2 x3 μ Q (wm_OkI.mono h (fun r2 μ1 h2 => ⟨fun c1 => (h2.1 c1), fun c1 => (f_117_24 x1 x2 x3 μ1 Q (h2.2 c1))⟩))
-- .. at 34
set_option maxRecDepth 100000 in
theorem w_117_34 (μ : wm_M) (Q : Option Value → wm_M → Prop) (h : wm_OkI 0 161 [.ref 0, .int (-7 : Int32)] μ (fun r2 μ1 => Q (some (.int r2)) μ1)) : wm_Wp 0 117 34 [.ref 0, .null, .null, .null, .null, .null, .null] μ Q := f_117_34  μ Q h
-- .. at 41
set_option maxRecDepth 100000 in
theorem w_117_41 (x1 : Int32) (x2 : Int32) (x3 : Int32) (μ : wm_M) (Q : Option Value → wm_M → Prop) (h : wm_OkR 0 163 [.ref 0] μ (fun μ1 => (¬ (10 : Int32) = 0 ∧ (¬ (10 : Int32) = 0 ∧ (vp_in (((x1 - x1 / (10 : Int32) * (10 : Int32)) * (12 : Int32)) + (x1 / (10 : Int32))) 84 ∧ (vp_in (((x1 - x1 / (10 : Int32) * (10 : Int32)) * (12 : Int32)) + (x1 / (10 : Int32))) 84 ∧ (vp_in (((x1 - x1 / (10 : Int32) * (10 : Int32)) * (12 : Int32)) + (x1 / (10 : Int32))) 84 ∧ Q (some (.int (μ1.1 6 ((((x1 - x1 / (10 : Int32) * (10 : Int32)) * (12 : Int32)) + (x1 / (10 : Int32)))).toNatClampNeg))) (wm_si (wm_si μ1 5 ((((x1 - x1 / (10 : Int32) * (10 : Int32)) * (12 : Int32)) + (x1 / (10 : Int32)))).toNatClampNeg x2) 6 ((((x1 - x1 / (10 : Int32) * (10 : Int32)) * (12 : Int32)) + (x1 / (10 : Int32)))).toNatClampNeg x3)))))))) : wm_Wp 0 117 41 [.ref 0, .int x1, .int x2, .int x3, .null, .null, .null] μ Q := f_117_41 x1 x2 x3 μ Q (wm_OkR.mono h (fun μ1 h6 => (f_117_50 x1 x2 x3 μ1 Q ⟨h6.1, ⟨h6.2.1, ⟨h6.2.2.1, (f_117_74 x2 x3 (((x1 - x1 / (10 : Int32) * (10 : Int32)) * (12 : Int32)) + (x1 / (10 : Int32))) (μ1.1 6 ((((x1 - x1 / (10 : Int32) * (10 : Int32)) * (12 : Int32)) + (x1 / (10 : Int32)))).toNatClampNeg) μ1 Q ⟨h6.2.2.2.1, (f_117_83 x3 (((x1 - x1 / (10 : Int32) * (10 : Int32)) * (12 : Int32)) + (x1 / (10 : Int32))) (μ1.1 6 ((((x1 - x1 / (10 : Int32) * (10 : Int32)) * (12 : Int32)) + (x1 / (10 : Int32)))).toNatClampNeg) (wm_si μ1 5 ((((x1 - x1 / (10 : Int32) * (10 : Int32)) * (12 : Int32)) + (x1 / (10 : Int32)))).toNatClampNeg x2) Q ⟨h6.2.2.2.2.1, (f_117_92 (μ1.1 6 ((((x1 - x1 / (10 : Int32) * (10 : Int32)) * (12 : Int32)) + (x1 / (10 : Int32)))).toNatClampNeg) (wm_si (wm_si μ1 5 ((((x1 - x1 / (10 : Int32) * (10 : Int32)) * (12 : Int32)) + (x1 / (10 : Int32)))).toNatClampNeg x2) 6 ((((x1 - x1 / (10 : Int32) * (10 : Int32)) * (12 : Int32)) + (x1 / (10 : Int32)))).toNatClampNeg x3) Q h6.2.2.2.2.2)⟩)⟩)⟩⟩⟩)))
-- WindBoat.blows(III)I
set_option maxRecDepth 100000 in
theorem v_118 (a1 : Int32) (a2 : Int32) (a3 : Int32) (μ : wm_M) (Q : Option Value → wm_M → Prop) (h : wm_OkI 0 171 [.int a1] μ (fun r2 μ1 => ((r2 = (0 : Int32) → wm_Wp 0 118 14 [.ref 0, .null, .null, .null, .null, .null] μ1 Q) ∧ (¬ r2 = (0 : Int32) → wm_OkI 0 167 [.int a2] μ1 (fun r4 μ3 => ((r4 = (0 : Int32) → wm_Wp 0 118 14 [.ref 0, .null, .null, .null, .null, .null] μ3 Q) ∧ (¬ r4 = (0 : Int32) → wm_Wp 0 118 21 [.ref 0, .int a1, .int a2, .int a3, .null, .null] μ3 Q))))))) : wm_Ok 0 118 [.ref 0, .int a1, .int a2, .int a3] μ Q := f_118 a1 a2 a3 μ Q (wm_OkI.mono h (fun r2 μ1 h2 => ⟨fun c1 => (h2.1 c1), fun c1 => (f_118_7 a1 a2 a3 μ1 Q (h2.2 c1))⟩))
-- .. at 14
set_option maxRecDepth 100000 in
theorem w_118_14 (μ : wm_M) (Q : Option Value → wm_M → Prop) (h : wm_OkI 0 161 [.ref 0, .int (-3 : Int32)] μ (fun r2 μ1 => Q (some (.int r2)) μ1)) : wm_Wp 0 118 14 [.ref 0, .null, .null, .null, .null, .null] μ Q := f_118_14  μ Q h
-- .. at 21
set_option maxRecDepth 100000 in
theorem w_118_21 (x1 : Int32) (x2 : Int32) (x3 : Int32) (μ : wm_M) (Q : Option Value → wm_M → Prop) (h : (¬ (10 : Int32) = 0 ∧ (¬ (10 : Int32) = 0 ∧ (((x3).toInt < 0 ∨ 3 < (x3).toInt → wm_Wp 0 118 128 [.ref 0, .null, .null, .null, .null, .null] μ Q) ∧ (((x3).toInt = 0 → wm_Wp 0 118 64 [.ref 0, .null, .null, .null, .int (x1 - x1 / (10 : Int32) * (10 : Int32)), .int (x1 / (10 : Int32))] μ Q) ∧ (((x3).toInt = 1 → wm_Wp 0 118 79 [.ref 0, .null, .null, .null, .int (x1 - x1 / (10 : Int32) * (10 : Int32)), .int (x1 / (10 : Int32))] μ Q) ∧ (((x3).toInt = 2 → wm_Wp 0 118 94 [.ref 0, .null, .int x2, .null, .int (x1 - x1 / (10 : Int32) * (10 : Int32)), .int (x1 / (10 : Int32))] μ Q) ∧ (((x3).toInt = 3 → wm_Wp 0 118 110 [.ref 0, .null, .null, .null, .int (x1 - x1 / (10 : Int32) * (10 : Int32)), .int (x1 / (10 : Int32))] μ Q) ∧ True)))))))) : wm_Wp 0 118 21 [.ref 0, .int x1, .int x2, .int x3, .null, .null] μ Q := f_118_21 x1 x2 x3 μ Q h
-- .. at 64
set_option maxRecDepth 100000 in
theorem w_118_64 (x4 : Int32) (x5 : Int32) (μ : wm_M) (Q : Option Value → wm_M → Prop) (h : wm_OkI 0 71 [.ref 2, .int x4, .int x5] μ (fun r2 μ1 => Q (some (.int r2)) μ1)) : wm_Wp 0 118 64 [.ref 0, .null, .null, .null, .int x4, .int x5] μ Q := f_118_64 x4 x5 μ Q h
-- .. at 79
set_option maxRecDepth 100000 in
theorem w_118_79 (x4 : Int32) (x5 : Int32) (μ : wm_M) (Q : Option Value → wm_M → Prop) (h : wm_OkI 0 72 [.ref 2, .int x4, .int x5] μ (fun r2 μ1 => Q (some (.int r2)) μ1)) : wm_Wp 0 118 79 [.ref 0, .null, .null, .null, .int x4, .int x5] μ Q := f_118_79 x4 x5 μ Q h
-- .. at 94
set_option maxRecDepth 100000 in
theorem w_118_94 (x2 : Int32) (x4 : Int32) (x5 : Int32) (μ : wm_M) (Q : Option Value → wm_M → Prop) (h : wm_OkI 0 73 [.ref 2, .int x4, .int x5, .int x2] μ (fun r2 μ1 => Q (some (.int r2)) μ1)) : wm_Wp 0 118 94 [.ref 0, .null, .int x2, .null, .int x4, .int x5] μ Q := f_118_94 x2 x4 x5 μ Q h
-- .. at 110
set_option maxRecDepth 100000 in
theorem w_118_110 (x4 : Int32) (x5 : Int32) (μ : wm_M) (Q : Option Value → wm_M → Prop) (h : wm_OkI 0 69 [.ref 2, .int x4, .int x5] μ (fun r2 μ1 => wm_OkI 0 177 [.int r2] μ1 (fun r4 μ3 => Q (some (.int r4)) μ3))) : wm_Wp 0 118 110 [.ref 0, .null, .null, .null, .int x4, .int x5] μ Q := f_118_110 x4 x5 μ Q h
-- .. at 128
set_option maxRecDepth 100000 in
theorem w_118_128 (μ : wm_M) (Q : Option Value → wm_M → Prop) (h : wm_OkI 0 161 [.ref 0, .int (-7 : Int32)] μ (fun r2 μ1 => Q (some (.int r2)) μ1)) : wm_Wp 0 118 128 [.ref 0, .null, .null, .null, .null, .null] μ Q := f_118_128  μ Q h
-- WindBoat.mark(I)I
set_option maxRecDepth 100000 in
theorem v_119 (a1 : Int32) (μ : wm_M) (Q : Option Value → wm_M → Prop) (h : wm_OkI 0 167 [.int a1] μ (fun r2 μ1 => ((r2 = (0 : Int32) → wm_OkI 0 161 [.ref 0, .int (-3 : Int32)] μ1 (fun r4 μ3 => Q (some (.int r4)) μ3)) ∧ (¬ r2 = (0 : Int32) → wm_Wp 0 119 14 [.ref 0, .int a1, .null, .null] μ1 Q)))) : wm_Ok 0 119 [.ref 0, .int a1] μ Q := f_119 a1 μ Q (wm_OkI.mono h (fun r2 μ1 h2 => ⟨fun c1 => (f_119_7  μ1 Q (h2.1 c1)), fun c1 => (h2.2 c1)⟩))
-- .. at 14
set_option maxRecDepth 100000 in
theorem w_119_14 (x1 : Int32) (μ : wm_M) (Q : Option Value → wm_M → Prop) (h : wm_OkR 0 163 [.ref 0] μ (fun μ1 => Q (some (.int (μ1.1 2 4))) (wm_si μ1 2 4 x1))) : wm_Wp 0 119 14 [.ref 0, .int x1, .null, .null] μ Q := f_119_14 x1 μ Q (wm_OkR.mono h (fun μ1 h1 => (f_119_22 x1 μ1 Q (f_119_32 (μ1.1 2 4) (wm_si μ1 2 4 x1) Q h1))))
-- WindBoat.speed(III)I
set_option maxRecDepth 100000 in
theorem v_120 (a1 : Int32) (a2 : Int32) (a3 : Int32) (μ : wm_M) (Q : Option Value → wm_M → Prop) (h : wm_OkI 0 172 [.int a1] μ (fun r2 μ1 => ((r2 = (0 : Int32) → wm_Wp 0 120 14 [.ref 0, .null, .null, .null, .null, .null, .null] μ1 Q) ∧ (¬ r2 = (0 : Int32) → wm_OkI 0 173 [.int a2] μ1 (fun r4 μ3 => ((r4 = (0 : Int32) → wm_Wp 0 120 14 [.ref 0, .null, .null, .null, .null, .null, .null] μ3 Q) ∧ (¬ r4 = (0 : Int32) → wm_Wp 0 120 21 [.ref 0, .int a1, .int a2, .int a3, .null, .null, .null] μ3 Q))))))) : wm_Ok 0 120 [.ref 0, .int a1, .int a2, .int a3] μ Q := f_120 a1 a2 a3 μ Q (wm_OkI.mono h (fun r2 μ1 h2 => ⟨fun c1 => (h2.1 c1), fun c1 => (f_120_7 a1 a2 a3 μ1 Q (h2.2 c1))⟩))
-- .. at 14
set_option maxRecDepth 100000 in
theorem w_120_14 (μ : wm_M) (Q : Option Value → wm_M → Prop) (h : wm_OkI 0 161 [.ref 0, .int (-3 : Int32)] μ (fun r2 μ1 => Q (some (.int r2)) μ1)) : wm_Wp 0 120 14 [.ref 0, .null, .null, .null, .null, .null, .null] μ Q := f_120_14  μ Q h
-- .. at 21
set_option maxRecDepth 100000 in
theorem w_120_21 (x1 : Int32) (x2 : Int32) (x3 : Int32) (μ : wm_M) (Q : Option Value → wm_M → Prop) (h : wm_OkI 0 174 [.int x3] μ (fun r2 μ1 => ((r2 = (0 : Int32) → wm_OkI 0 161 [.ref 0, .int (-7 : Int32)] μ1 (fun r4 μ3 => Q (some (.int r4)) μ3)) ∧ (¬ r2 = (0 : Int32) → wm_Wp 0 120 35 [.ref 0, .int x1, .int x2, .int x3, .null, .null, .null] μ1 Q)))) : wm_Wp 0 120 21 [.ref 0, .int x1, .int x2, .int x3, .null, .null, .null] μ Q := f_120_21 x1 x2 x3 μ Q (wm_OkI.mono h (fun r2 μ1 h2 => ⟨fun c1 => (f_120_28  μ1 Q (h2.1 c1)), fun c1 => (h2.2 c1)⟩))
-- .. at 35
set_option maxRecDepth 100000 in
theorem w_120_35 (x1 : Int32) (x2 : Int32) (x3 : Int32) (μ : wm_M) (Q : Option Value → wm_M → Prop) (h : wm_OkR 0 163 [.ref 0] μ (fun μ1 => (vp_in ((x1 * (5 : Int32)) + x2) 25 ∧ (vp_in ((x1 * (5 : Int32)) + x2) 25 ∧ Q (some (.int (μ1.1 8 (((x1 * (5 : Int32)) + x2)).toNatClampNeg))) (wm_si μ1 8 (((x1 * (5 : Int32)) + x2)).toNatClampNeg x3))))) : wm_Wp 0 120 35 [.ref 0, .int x1, .int x2, .int x3, .null, .null, .null] μ Q := f_120_35 x1 x2 x3 μ Q (wm_OkR.mono h (fun μ1 h3 => (f_120_44 x1 x2 x3 μ1 Q ⟨h3.1, ⟨h3.2.1, (f_120_70 (μ1.1 8 (((x1 * (5 : Int32)) + x2)).toNatClampNeg) (wm_si μ1 8 (((x1 * (5 : Int32)) + x2)).toNatClampNeg x3) Q h3.2.2)⟩⟩)))
-- WindBoat.learn(III)I
set_option maxRecDepth 100000 in
theorem v_121 (a1 : Int32) (a2 : Int32) (a3 : Int32) (μ : wm_M) (Q : Option Value → wm_M → Prop) (h : wm_OkI 0 172 [.int a1] μ (fun r2 μ1 => ((r2 = (0 : Int32) → wm_Wp 0 121 14 [.ref 0, .null, .null, .null, .null] μ1 Q) ∧ (¬ r2 = (0 : Int32) → wm_OkI 0 173 [.int a2] μ1 (fun r4 μ3 => ((r4 = (0 : Int32) → wm_Wp 0 121 14 [.ref 0, .null, .null, .null, .null] μ3 Q) ∧ (¬ r4 = (0 : Int32) → wm_Wp 0 121 21 [.ref 0, .int a1, .int a2, .int a3, .null] μ3 Q))))))) : wm_Ok 0 121 [.ref 0, .int a1, .int a2, .int a3] μ Q := f_121 a1 a2 a3 μ Q (wm_OkI.mono h (fun r2 μ1 h2 => ⟨fun c1 => (h2.1 c1), fun c1 => (f_121_7 a1 a2 a3 μ1 Q (h2.2 c1))⟩))
-- .. at 14
set_option maxRecDepth 100000 in
theorem w_121_14 (μ : wm_M) (Q : Option Value → wm_M → Prop) (h : wm_OkI 0 161 [.ref 0, .int (-3 : Int32)] μ (fun r2 μ1 => Q (some (.int r2)) μ1)) : wm_Wp 0 121 14 [.ref 0, .null, .null, .null, .null] μ Q := f_121_14  μ Q h
-- .. at 21
set_option maxRecDepth 100000 in
theorem w_121_21 (x1 : Int32) (x2 : Int32) (x3 : Int32) (μ : wm_M) (Q : Option Value → wm_M → Prop) (h : wm_OkI 0 174 [.int x3] μ (fun r2 μ1 => ((r2 = (0 : Int32) → wm_OkI 0 161 [.ref 0, .int (-7 : Int32)] μ1 (fun r4 μ3 => Q (some (.int r4)) μ3)) ∧ (¬ r2 = (0 : Int32) → wm_Wp 0 121 35 [.ref 0, .int x1, .int x2, .int x3, .null] μ1 Q)))) : wm_Wp 0 121 21 [.ref 0, .int x1, .int x2, .int x3, .null] μ Q := f_121_21 x1 x2 x3 μ Q (wm_OkI.mono h (fun r2 μ1 h2 => ⟨fun c1 => (f_121_28  μ1 Q (h2.1 c1)), fun c1 => (h2.2 c1)⟩))
-- .. at 35
set_option maxRecDepth 100000 in
theorem w_121_35 (x1 : Int32) (x2 : Int32) (x3 : Int32) (μ : wm_M) (Q : Option Value → wm_M → Prop) (h : (vp_in ((x1 * (5 : Int32)) + x2) 25 ∧ (((μ.1 9 (((x1 * (5 : Int32)) + x2)).toNatClampNeg) < (99 : Int32) → wm_Wp 0 121 67 [.ref 0, .null, .null, .int x3, .int ((x1 * (5 : Int32)) + x2)] μ Q) ∧ (¬ (μ.1 9 (((x1 * (5 : Int32)) + x2)).toNatClampNeg) < (99 : Int32) → wm_OkI 0 161 [.ref 0, .int (-8 : Int32)] μ (fun r2 μ1 => Q (some (.int r2)) μ1))))) : wm_Wp 0 121 35 [.ref 0, .int x1, .int x2, .int x3, .null] μ Q := f_121_35 x1 x2 x3 μ Q ⟨h.1, ⟨fun c1 => (h.2.1 c1), fun c1 => (f_121_60  μ Q (h.2.2 c1))⟩⟩
-- .. at 67
set_option maxRecDepth 100000 in
theorem w_121_67 (x3 : Int32) (x4 : Int32) (μ : wm_M) (Q : Option Value → wm_M → Prop) (h : wm_OkR 0 163 [.ref 0] μ (fun μ1 => wm_OkI 0 84 [.ref 7, .int x4, .int x3] μ1 (fun r3 μ2 => Q (some (.int r3)) μ2))) : wm_Wp 0 121 67 [.ref 0, .null, .null, .int x3, .int x4] μ Q := f_121_67 x3 x4 μ Q h
-- WindBoat.table(III)I
set_option maxRecDepth 100000 in
theorem v_122 (a1 : Int32) (a2 : Int32) (a3 : Int32) (μ : wm_M) (Q : Option Value → wm_M → Prop) (h : wm_OkI 0 172 [.int a1] μ (fun r2 μ1 => ((r2 = (0 : Int32) → wm_Wp 0 122 14 [.ref 0, .null, .null, .null, .null, .null] μ1 Q) ∧ (¬ r2 = (0 : Int32) → wm_OkI 0 173 [.int a2] μ1 (fun r4 μ3 => ((r4 = (0 : Int32) → wm_Wp 0 122 14 [.ref 0, .null, .null, .null, .null, .null] μ3 Q) ∧ (¬ r4 = (0 : Int32) → wm_Wp 0 122 21 [.ref 0, .int a1, .int a2, .int a3, .null, .null] μ3 Q))))))) : wm_Ok 0 122 [.ref 0, .int a1, .int a2, .int a3] μ Q := f_122 a1 a2 a3 μ Q (wm_OkI.mono h (fun r2 μ1 h2 => ⟨fun c1 => (h2.1 c1), fun c1 => (f_122_7 a1 a2 a3 μ1 Q (h2.2 c1))⟩))
-- .. at 14
set_option maxRecDepth 100000 in
theorem w_122_14 (μ : wm_M) (Q : Option Value → wm_M → Prop) (h : wm_OkI 0 161 [.ref 0, .int (-3 : Int32)] μ (fun r2 μ1 => Q (some (.int r2)) μ1)) : wm_Wp 0 122 14 [.ref 0, .null, .null, .null, .null, .null] μ Q := f_122_14  μ Q h
-- .. at 21
set_option maxRecDepth 100000 in
theorem w_122_21 (x1 : Int32) (x2 : Int32) (x3 : Int32) (μ : wm_M) (Q : Option Value → wm_M → Prop) (h : (((x3).toInt < 0 ∨ 4 < (x3).toInt → wm_Wp 0 122 117 [.ref 0, .null, .null, .null, .null, .null] μ Q) ∧ (((x3).toInt = 0 → wm_Wp 0 122 72 [.null, .null, .null, .null, .ref 7, .int ((x1 * (5 : Int32)) + x2)] μ Q) ∧ (((x3).toInt = 1 → wm_Wp 0 122 81 [.null, .null, .null, .null, .ref 7, .int ((x1 * (5 : Int32)) + x2)] μ Q) ∧ (((x3).toInt = 2 → wm_Wp 0 122 90 [.null, .null, .null, .null, .ref 7, .int ((x1 * (5 : Int32)) + x2)] μ Q) ∧ (((x3).toInt = 3 → wm_Wp 0 122 99 [.null, .null, .null, .null, .ref 7, .int ((x1 * (5 : Int32)) + x2)] μ Q) ∧ (((x3).toInt = 4 → wm_Wp 0 122 108 [.null, .null, .null, .null, .ref 7, .int ((x1 * (5 : Int32)) + x2)] μ Q) ∧ True))))))) : wm_Wp 0 122 21 [.ref 0, .int x1, .int x2, .int x3, .null, .null] μ Q := f_122_21 x1 x2 x3 μ Q h
-- .. at 72
set_option maxRecDepth 100000 in
theorem w_122_72 (x5 : Int32) (μ : wm_M) (Q : Option Value → wm_M → Prop) (h : (vp_in x5 25 ∧ Q (some (.int (μ.1 8 (x5).toNatClampNeg))) μ)) : wm_Wp 0 122 72 [.null, .null, .null, .null, .ref 7, .int x5] μ Q := f_122_72 x5 μ Q h
-- .. at 81
set_option maxRecDepth 100000 in
theorem w_122_81 (x5 : Int32) (μ : wm_M) (Q : Option Value → wm_M → Prop) (h : wm_OkI 0 85 [.ref 7, .int (1 : Int32), .int x5] μ (fun r2 μ1 => Q (some (.int r2)) μ1)) : wm_Wp 0 122 81 [.null, .null, .null, .null, .ref 7, .int x5] μ Q := f_122_81 x5 μ Q h
-- .. at 90
set_option maxRecDepth 100000 in
theorem w_122_90 (x5 : Int32) (μ : wm_M) (Q : Option Value → wm_M → Prop) (h : (vp_in x5 25 ∧ Q (some (.int (μ.1 9 (x5).toNatClampNeg))) μ)) : wm_Wp 0 122 90 [.null, .null, .null, .null, .ref 7, .int x5] μ Q := f_122_90 x5 μ Q h
-- .. at 99
set_option maxRecDepth 100000 in
theorem w_122_99 (x5 : Int32) (μ : wm_M) (Q : Option Value → wm_M → Prop) (h : (vp_in x5 25 ∧ Q (some (.int (μ.1 11 (x5).toNatClampNeg))) μ)) : wm_Wp 0 122 99 [.null, .null, .null, .null, .ref 7, .int x5] μ Q := f_122_99 x5 μ Q h
-- .. at 108
set_option maxRecDepth 100000 in
theorem w_122_108 (x5 : Int32) (μ : wm_M) (Q : Option Value → wm_M → Prop) (h : (vp_in x5 25 ∧ Q (some (.int (μ.1 12 (x5).toNatClampNeg))) μ)) : wm_Wp 0 122 108 [.null, .null, .null, .null, .ref 7, .int x5] μ Q := f_122_108 x5 μ Q h
-- .. at 117
set_option maxRecDepth 100000 in
theorem w_122_117 (μ : wm_M) (Q : Option Value → wm_M → Prop) (h : wm_OkI 0 161 [.ref 0, .int (-7 : Int32)] μ (fun r2 μ1 => Q (some (.int r2)) μ1)) : wm_Wp 0 122 117 [.ref 0, .null, .null, .null, .null, .null] μ Q := f_122_117  μ Q h
-- WindBoat.sail(I)I
set_option maxRecDepth 100000 in
theorem v_123 (a1 : Int32) (μ : wm_M) (Q : Option Value → wm_M → Prop) (h : wm_OkI 0 178 [.int a1, .int (0 : Int32), .int (4 : Int32)] μ (fun r2 μ1 => ((r2 = (0 : Int32) → wm_OkI 0 161 [.ref 0, .int (-7 : Int32)] μ1 (fun r4 μ3 => Q (some (.int r4)) μ3)) ∧ (¬ r2 = (0 : Int32) → wm_Wp 0 123 16 [.ref 0, .int a1] μ1 Q)))) : wm_Ok 0 123 [.ref 0, .int a1] μ Q := f_123 a1 μ Q (wm_OkI.mono h (fun r2 μ1 h2 => ⟨fun c1 => (f_123_9  μ1 Q (h2.1 c1)), fun c1 => (h2.2 c1)⟩))
-- .. at 16
set_option maxRecDepth 100000 in
theorem w_123_16 (x1 : Int32) (μ : wm_M) (Q : Option Value → wm_M → Prop) (h : (((μ.1 13 10) < (3 : Int32) → wm_Wp 0 123 37 [.ref 0, .int x1] μ Q) ∧ (¬ (μ.1 13 10) < (3 : Int32) → wm_OkI 0 161 [.ref 0, .int (-8 : Int32)] μ (fun r2 μ1 => Q (some (.int r2)) μ1)))) : wm_Wp 0 123 16 [.ref 0, .int x1] μ Q := f_123_16 x1 μ Q h
-- .. at 37
set_option maxRecDepth 100000 in
theorem w_123_37 (x1 : Int32) (μ : wm_M) (Q : Option Value → wm_M → Prop) (h : wm_OkR 0 163 [.ref 0] μ (fun μ1 => wm_OkI 0 5 [.ref 13, .int x1] μ1 (fun r3 μ2 => Q (some (.int r3)) μ2))) : wm_Wp 0 123 37 [.ref 0, .int x1] μ Q := f_123_37 x1 μ Q h
-- WindBoat.pace(III)I
set_option maxRecDepth 100000 in
theorem v_124 (a1 : Int32) (a2 : Int32) (a3 : Int32) (μ : wm_M) (Q : Option Value → wm_M → Prop) (h : wm_OkI 0 165 [.ref 0, .int a1] μ (fun r2 μ1 => ((r2 = (0 : Int32) → wm_Wp 0 124 15 [.ref 0, .null, .null, .null] μ1 Q) ∧ (¬ r2 = (0 : Int32) → wm_OkI 0 172 [.int a2] μ1 (fun r4 μ3 => ((r4 = (0 : Int32) → wm_Wp 0 124 15 [.ref 0, .null, .null, .null] μ3 Q) ∧ (¬ r4 = (0 : Int32) → wm_Wp 0 124 22 [.ref 0, .int a1, .int a2, .int a3] μ3 Q))))))) : wm_Ok 0 124 [.ref 0, .int a1, .int a2, .int a3] μ Q := f_124 a1 a2 a3 μ Q (wm_OkI.mono h (fun r2 μ1 h2 => ⟨fun c1 => (h2.1 c1), fun c1 => (f_124_8 a1 a2 a3 μ1 Q (h2.2 c1))⟩))
-- .. at 15
set_option maxRecDepth 100000 in
theorem w_124_15 (μ : wm_M) (Q : Option Value → wm_M → Prop) (h : wm_OkI 0 161 [.ref 0, .int (-3 : Int32)] μ (fun r2 μ1 => Q (some (.int r2)) μ1)) : wm_Wp 0 124 15 [.ref 0, .null, .null, .null] μ Q := f_124_15  μ Q h
-- .. at 22
set_option maxRecDepth 100000 in
theorem w_124_22 (x1 : Int32) (x2 : Int32) (x3 : Int32) (μ : wm_M) (Q : Option Value → wm_M → Prop) (h : wm_OkI 0 174 [.int x3] μ (fun r2 μ1 => ((r2 = (0 : Int32) → wm_OkI 0 161 [.ref 0, .int (-7 : Int32)] μ1 (fun r4 μ3 => Q (some (.int r4)) μ3)) ∧ (¬ r2 = (0 : Int32) → wm_Wp 0 124 36 [.ref 0, .int x1, .int x2, .int x3] μ1 Q)))) : wm_Wp 0 124 22 [.ref 0, .int x1, .int x2, .int x3] μ Q := f_124_22 x1 x2 x3 μ Q (wm_OkI.mono h (fun r2 μ1 h2 => ⟨fun c1 => (f_124_29  μ1 Q (h2.1 c1)), fun c1 => (h2.2 c1)⟩))
-- .. at 36
set_option maxRecDepth 100000 in
theorem w_124_36 (x1 : Int32) (x2 : Int32) (x3 : Int32) (μ : wm_M) (Q : Option Value → wm_M → Prop) (h : (vp_in x1 3 ∧ wm_OkI 0 9 [.int (μ.1 14 (x1).toNatClampNeg), .int x2, .int x3] μ (fun r2 μ1 => Q (some (.int r2)) μ1))) : wm_Wp 0 124 36 [.ref 0, .int x1, .int x2, .int x3] μ Q := f_124_36 x1 x2 x3 μ Q h
-- WindBoat.sailOf(II)I
set_option maxRecDepth 100000 in
theorem v_125 (a1 : Int32) (a2 : Int32) (μ : wm_M) (Q : Option Value → wm_M → Prop) (h : wm_OkI 0 165 [.ref 0, .int a1] μ (fun r2 μ1 => ((r2 = (0 : Int32) → wm_OkI 0 161 [.ref 0, .int (-3 : Int32)] μ1 (fun r4 μ3 => Q (some (.int r4)) μ3)) ∧ (¬ r2 = (0 : Int32) → wm_Wp 0 125 15 [.ref 0, .int a1, .int a2] μ1 Q)))) : wm_Ok 0 125 [.ref 0, .int a1, .int a2] μ Q := f_125 a1 a2 μ Q (wm_OkI.mono h (fun r2 μ1 h2 => ⟨fun c1 => (f_125_8  μ1 Q (h2.1 c1)), fun c1 => (h2.2 c1)⟩))
-- .. at 15
set_option maxRecDepth 100000 in
theorem w_125_15 (x1 : Int32) (x2 : Int32) (μ : wm_M) (Q : Option Value → wm_M → Prop) (h : (((x2).toInt < 0 ∨ 2 < (x2).toInt → wm_Wp 0 125 85 [.ref 0, .null, .null] μ Q) ∧ (((x2).toInt = 0 → wm_Wp 0 125 44 [.ref 0, .int x1, .null] μ Q) ∧ (((x2).toInt = 1 → wm_Wp 0 125 57 [.ref 0, .int x1, .null] μ Q) ∧ (((x2).toInt = 2 → wm_Wp 0 125 69 [.ref 0, .int x1, .null] μ Q) ∧ True))))) : wm_Wp 0 125 15 [.ref 0, .int x1, .int x2] μ Q := f_125_15 x1 x2 μ Q h
-- .. at 44
set_option maxRecDepth 100000 in
theorem w_125_44 (x1 : Int32) (μ : wm_M) (Q : Option Value → wm_M → Prop) (h : (vp_in x1 3 ∧ Q (some (.int (μ.1 14 (x1).toNatClampNeg))) μ)) : wm_Wp 0 125 44 [.ref 0, .int x1, .null] μ Q := f_125_44 x1 μ Q h
-- .. at 57
set_option maxRecDepth 100000 in
theorem w_125_57 (x1 : Int32) (μ : wm_M) (Q : Option Value → wm_M → Prop) (h : wm_OkI 0 6 [.ref 13, .int x1] μ (fun r2 μ1 => Q (some (.int r2)) μ1)) : wm_Wp 0 125 57 [.ref 0, .int x1, .null] μ Q := f_125_57 x1 μ Q h
-- .. at 69
set_option maxRecDepth 100000 in
theorem w_125_69 (x1 : Int32) (μ : wm_M) (Q : Option Value → wm_M → Prop) (h : (vp_in x1 3 ∧ wm_OkI 0 177 [.int (μ.1 15 (x1).toNatClampNeg)] μ (fun r2 μ1 => Q (some (.int r2)) μ1))) : wm_Wp 0 125 69 [.ref 0, .int x1, .null] μ Q := f_125_69 x1 μ Q h
-- .. at 85
set_option maxRecDepth 100000 in
theorem w_125_85 (μ : wm_M) (Q : Option Value → wm_M → Prop) (h : wm_OkI 0 161 [.ref 0, .int (-7 : Int32)] μ (fun r2 μ1 => Q (some (.int r2)) μ1)) : wm_Wp 0 125 85 [.ref 0, .null, .null] μ Q := f_125_85  μ Q h
-- WindBoat.taken(II)I
set_option maxRecDepth 100000 in
theorem v_126 (a1 : Int32) (a2 : Int32) (μ : wm_M) (Q : Option Value → wm_M → Prop) (h : wm_OkI 0 165 [.ref 0, .int a1] μ (fun r2 μ1 => ((r2 = (0 : Int32) → wm_OkI 0 161 [.ref 0, .int (-3 : Int32)] μ1 (fun r4 μ3 => Q (some (.int r4)) μ3)) ∧ (¬ r2 = (0 : Int32) → wm_Wp 0 126 15 [.ref 0, .int a1, .int a2] μ1 Q)))) : wm_Ok 0 126 [.ref 0, .int a1, .int a2] μ Q := f_126 a1 a2 μ Q (wm_OkI.mono h (fun r2 μ1 h2 => ⟨fun c1 => (f_126_8  μ1 Q (h2.1 c1)), fun c1 => (h2.2 c1)⟩))
-- .. at 15
set_option maxRecDepth 100000 in
theorem w_126_15 (x1 : Int32) (x2 : Int32) (μ : wm_M) (Q : Option Value → wm_M → Prop) (h : wm_OkI 0 178 [.int x2, .int (0 : Int32), .int (4 : Int32)] μ (fun r2 μ1 => ((r2 = (0 : Int32) → wm_OkI 0 161 [.ref 0, .int (-7 : Int32)] μ1 (fun r4 μ3 => Q (some (.int r4)) μ3)) ∧ (¬ r2 = (0 : Int32) → wm_Wp 0 126 31 [.ref 0, .int x1, .int x2] μ1 Q)))) : wm_Wp 0 126 15 [.ref 0, .int x1, .int x2] μ Q := f_126_15 x1 x2 μ Q (wm_OkI.mono h (fun r2 μ1 h2 => ⟨fun c1 => (f_126_24  μ1 Q (h2.1 c1)), fun c1 => (h2.2 c1)⟩))
-- .. at 31
set_option maxRecDepth 100000 in
theorem w_126_31 (x1 : Int32) (x2 : Int32) (μ : wm_M) (Q : Option Value → wm_M → Prop) (h : (vp_in x1 3 ∧ wm_OkI 0 8 [.int (μ.1 14 (x1).toNatClampNeg), .int x2] μ (fun r2 μ1 => ((r2 = (0 : Int32) → wm_OkI 0 161 [.ref 0, .int (-5 : Int32)] μ1 (fun r4 μ3 => Q (some (.int r4)) μ3)) ∧ (¬ r2 = (0 : Int32) → wm_Wp 0 126 57 [.ref 0, .int x1, .null] μ1 Q))))) : wm_Wp 0 126 31 [.ref 0, .int x1, .int x2] μ Q := f_126_31 x1 x2 μ Q ⟨h.1, (wm_OkI.mono h.2 (fun r2 μ1 h2 => ⟨fun c1 => (f_126_50  μ1 Q (h2.1 c1)), fun c1 => (h2.2 c1)⟩))⟩
-- .. at 57
set_option maxRecDepth 100000 in
theorem w_126_57 (x1 : Int32) (μ : wm_M) (Q : Option Value → wm_M → Prop) (h : wm_OkI 0 6 [.ref 13, .int x1] μ (fun r2 μ1 => Q (some (.int r2)) μ1)) : wm_Wp 0 126 57 [.ref 0, .int x1, .null] μ Q := f_126_57 x1 μ Q h
-- WindBoat.hand()I
set_option maxRecDepth 100000 in
theorem v_127 (μ : wm_M) (Q : Option Value → wm_M → Prop) (h : (((μ.1 13 13) < (8 : Int32) → wm_Wp 0 127 22 [.ref 0] μ Q) ∧ (¬ (μ.1 13 13) < (8 : Int32) → wm_OkI 0 161 [.ref 0, .int (-8 : Int32)] μ (fun r2 μ1 => Q (some (.int r2)) μ1)))) : wm_Ok 0 127 [.ref 0] μ Q := f_127  μ Q h
-- .. at 22
set_option maxRecDepth 100000 in
theorem w_127_22 (μ : wm_M) (Q : Option Value → wm_M → Prop) (h : wm_OkR 0 163 [.ref 0] μ (fun μ1 => wm_OkI 0 10 [.ref 13] μ1 (fun r3 μ2 => Q (some (.int r3)) μ2))) : wm_Wp 0 127 22 [.ref 0] μ Q := f_127_22  μ Q h
-- WindBoat.sleep(II)I
set_option maxRecDepth 100000 in
theorem v_128 (a1 : Int32) (a2 : Int32) (μ : wm_M) (Q : Option Value → wm_M → Prop) (h : wm_OkI 0 178 [.int a1, .int (0 : Int32), .int ((μ.1 13 13) - (1 : Int32))] μ (fun r2 μ1 => ((r2 = (0 : Int32) → wm_OkI 0 161 [.ref 0, .int (-3 : Int32)] μ1 (fun r4 μ3 => Q (some (.int r4)) μ3)) ∧ (¬ r2 = (0 : Int32) → wm_Wp 0 128 27 [.ref 0, .int a1, .int a2, .null] μ1 Q)))) : wm_Ok 0 128 [.ref 0, .int a1, .int a2] μ Q := f_128 a1 a2 μ Q (wm_OkI.mono h (fun r2 μ1 h2 => ⟨fun c1 => (f_128_20  μ1 Q (h2.1 c1)), fun c1 => (h2.2 c1)⟩))
-- .. at 27
set_option maxRecDepth 100000 in
theorem w_128_27 (x1 : Int32) (x2 : Int32) (μ : wm_M) (Q : Option Value → wm_M → Prop) (h : wm_OkI 0 176 [.int x2] μ (fun r2 μ1 => ((r2 = (0 : Int32) → wm_OkI 0 161 [.ref 0, .int (-7 : Int32)] μ1 (fun r4 μ3 => Q (some (.int r4)) μ3)) ∧ (¬ r2 = (0 : Int32) → wm_Wp 0 128 41 [.ref 0, .int x1, .int x2, .null] μ1 Q)))) : wm_Wp 0 128 27 [.ref 0, .int x1, .int x2, .null] μ Q := f_128_27 x1 x2 μ Q (wm_OkI.mono h (fun r2 μ1 h2 => ⟨fun c1 => (f_128_34  μ1 Q (h2.1 c1)), fun c1 => (h2.2 c1)⟩))
-- .. at 41
set_option maxRecDepth 100000 in
theorem w_128_41 (x1 : Int32) (x2 : Int32) (μ : wm_M) (Q : Option Value → wm_M → Prop) (h : wm_OkR 0 163 [.ref 0] μ (fun μ1 => ((x2 = (1 : Int32) → wm_OkV 0 11 [.ref 13, .int x1, .int (1 : Int32)] μ1 (fun μ2 => (vp_in x1 8 ∧ Q (some (.int (μ2.1 16 (x1).toNatClampNeg))) μ2))) ∧ (¬ x2 = (1 : Int32) → wm_OkV 0 11 [.ref 13, .int x1, .int (0 : Int32)] μ1 (fun μ3 => (vp_in x1 8 ∧ Q (some (.int (μ3.1 16 (x1).toNatClampNeg))) μ3)))))) : wm_Wp 0 128 41 [.ref 0, .int x1, .int x2, .null] μ Q := f_128_41 x1 x2 μ Q (wm_OkR.mono h (fun μ1 h4 => (f_128_49 x1 x2 μ1 Q ⟨fun c3 => (wm_OkV.mono (h4.1 c3) (fun μ2 h1 => (f_128_64 x1 μ2 Q h1))), fun c3 => (wm_OkV.mono (h4.2 c3) (fun μ3 h2 => (f_128_64 x1 μ3 Q h2)))⟩)))
-- WindBoat.feed(II)I
set_option maxRecDepth 100000 in
theorem v_129 (a1 : Int32) (a2 : Int32) (μ : wm_M) (Q : Option Value → wm_M → Prop) (h : (((0 : Int32) ≤ a2 → wm_Wp 0 129 11 [.ref 0, .int a1, .int a2, .null] μ Q) ∧ (¬ (0 : Int32) ≤ a2 → wm_OkI 0 161 [.ref 0, .int (-4 : Int32)] μ (fun r2 μ1 => Q (some (.int r2)) μ1)))) : wm_Ok 0 129 [.ref 0, .int a1, .int a2] μ Q := f_129 a1 a2 μ Q h
-- .. at 11
set_option maxRecDepth 100000 in
theorem w_129_11 (x1 : Int32) (x2 : Int32) (μ : wm_M) (Q : Option Value → wm_M → Prop) (h : ((x2 ≤ (4 : Int32) → wm_Wp 0 129 23 [.ref 0, .int x1, .int x2, .null] μ Q) ∧ (¬ x2 ≤ (4 : Int32) → wm_OkI 0 161 [.ref 0, .int (-7 : Int32)] μ (fun r2 μ1 => Q (some (.int r2)) μ1)))) : wm_Wp 0 129 11 [.ref 0, .int x1, .int x2, .null] μ Q := f_129_11 x1 x2 μ Q h
-- .. at 23
set_option maxRecDepth 100000 in
theorem w_129_23 (x1 : Int32) (x2 : Int32) (μ : wm_M) (Q : Option Value → wm_M → Prop) (h : ((((μ.1 59 1) + x2) ≤ (120 : Int32) → wm_Wp 0 129 44 [.ref 0, .int x1, .int x2, .null] μ Q) ∧ (¬ ((μ.1 59 1) + x2) ≤ (120 : Int32) → wm_OkI 0 161 [.ref 0, .int (-8 : Int32)] μ (fun r2 μ1 => Q (some (.int r2)) μ1)))) : wm_Wp 0 129 23 [.ref 0, .int x1, .int x2, .null] μ Q := f_129_23 x1 x2 μ Q h
-- .. at 44
set_option maxRecDepth 100000 in
theorem w_129_44 (x1 : Int32) (x2 : Int32) (μ : wm_M) (Q : Option Value → wm_M → Prop) (h : wm_Wp 0 129 48 [.ref 0, .int x1, .null, .int (x2 - (1 : Int32))] μ Q) : wm_Wp 0 129 44 [.ref 0, .int x1, .int x2, .null] μ Q := f_129_44 x1 x2 μ Q h
-- .. at 48
set_option maxRecDepth 100000 in
theorem w_129_48 (x1 : Int32) (x3 : Int32) (μ : wm_M) (Q : Option Value → wm_M → Prop) (h : ((x3 < (0 : Int32) → wm_Wp 0 129 75 [.ref 0, .null, .null, .null] μ Q) ∧ (¬ x3 < (0 : Int32) → wm_OkV 0 88 [.ref 59, .int (((x1).toUInt32 >>> ((((8 : Int32) * x3)).toUInt32 &&& Int32.toUInt32 31)).toInt32 &&& (255 : Int32))] μ (fun μ1 => wm_Wp 0 129 48 [.ref 0, .int x1, .null, .int (x3 + (-1 : Int32))] μ1 Q)))) : wm_Wp 0 129 48 [.ref 0, .int x1, .null, .int x3] μ Q := f_129_48 x1 x3 μ Q ⟨fun c2 => (h.1 c2), fun c2 => (wm_OkV.mono (h.2 c2) (fun μ1 h1 => (f_129_69 x1 x3 μ1 Q h1)))⟩
-- .. at 75
set_option maxRecDepth 100000 in
theorem w_129_75 (μ : wm_M) (Q : Option Value → wm_M → Prop) (h : Q (some (.int (μ.1 59 1))) μ) : wm_Wp 0 129 75 [.ref 0, .null, .null, .null] μ Q := f_129_75  μ Q h
-- WindBoat.wipe()I
set_option maxRecDepth 100000 in
theorem v_130 (μ : wm_M) (Q : Option Value → wm_M → Prop) (h : Q (some (.int (μ.1 59 1))) (wm_si μ 59 1 (0 : Int32))) : wm_Ok 0 130 [.ref 0] μ Q := f_130  μ Q (f_130_16 (μ.1 59 1) (wm_si μ 59 1 (0 : Int32)) Q h)
-- WindBoat.rule(II)I
set_option maxRecDepth 100000 in
theorem v_131 (a1 : Int32) (a2 : Int32) (μ : wm_M) (Q : Option Value → wm_M → Prop) (h : ((a1 < (0 : Int32) → wm_Wp 0 131 15 [.ref 0, .null, .null, .null, .null] μ Q) ∧ (¬ a1 < (0 : Int32) → (((12 : Int32) < a2 → wm_Wp 0 131 15 [.ref 0, .null, .null, .null, .null] μ Q) ∧ (¬ (12 : Int32) < a2 → ((a1 < a2 → wm_Wp 0 131 22 [.ref 0, .int a1, .int a2, .null, .null] μ Q) ∧ (¬ a1 < a2 → wm_Wp 0 131 15 [.ref 0, .null, .null, .null, .null] μ Q))))))) : wm_Ok 0 131 [.ref 0, .int a1, .int a2] μ Q := f_131 a1 a2 μ Q h
-- .. at 15
set_option maxRecDepth 100000 in
theorem w_131_15 (μ : wm_M) (Q : Option Value → wm_M → Prop) (h : wm_OkI 0 161 [.ref 0, .int (-7 : Int32)] μ (fun r2 μ1 => Q (some (.int r2)) μ1)) : wm_Wp 0 131 15 [.ref 0, .null, .null, .null, .null] μ Q := f_131_15  μ Q h
-- .. at 22
set_option maxRecDepth 100000 in
theorem w_131_22 (x1 : Int32) (x2 : Int32) (μ : wm_M) (Q : Option Value → wm_M → Prop) (h : (((μ.1 18 6) < (12 : Int32) → wm_Wp 0 131 44 [.ref 0, .int x1, .int x2, .null, .null] μ Q) ∧ (¬ (μ.1 18 6) < (12 : Int32) → wm_OkI 0 161 [.ref 0, .int (-8 : Int32)] μ (fun r2 μ1 => Q (some (.int r2)) μ1)))) : wm_Wp 0 131 22 [.ref 0, .int x1, .int x2, .null, .null] μ Q := f_131_22 x1 x2 μ Q h
-- .. at 44
set_option maxRecDepth 100000 in
theorem w_131_44 (x1 : Int32) (x2 : Int32) (μ : wm_M) (Q : Option Value → wm_M → Prop) (h : wm_OkI 0 89 [.ref 59] μ (fun r2 μ1 => ((r2 = (-1 : Int32) → wm_Wp 0 131 62 [.ref 0, .int x1, .int x2, .null, .null] μ1 Q) ∧ (¬ r2 = (-1 : Int32) → Q (some (.int ((-10 : Int32) - r2))) μ1)))) : wm_Wp 0 131 44 [.ref 0, .int x1, .int x2, .null, .null] μ Q := f_131_44 x1 x2 μ Q (wm_OkI.mono h (fun r2 μ1 h1 => (f_131_52 x1 x2 r2 μ1 Q h1)))
-- .. at 62
set_option maxRecDepth 100000 in
theorem w_131_62 (x1 : Int32) (x2 : Int32) (μ : wm_M) (Q : Option Value → wm_M → Prop) (h : wm_OkR 0 163 [.ref 0] μ (fun μ1 => wm_OkI 0 61 [.ref 18, .ref 59, .int x1, .int x2] μ1 (fun r3 μ2 => Q (some (.int r3)) (wm_si μ2 59 1 (0 : Int32))))) : wm_Wp 0 131 62 [.ref 0, .int x1, .int x2, .null, .null] μ Q := f_131_62 x1 x2 μ Q (wm_OkR.mono h (fun μ1 h2 => (wm_OkI.mono h2 (fun r3 μ2 h1 => (f_131_80 r3 μ2 Q (f_131_88 r3 (wm_si μ2 59 1 (0 : Int32)) Q h1))))))
-- WindBoat.says(III)I
set_option maxRecDepth 100000 in
theorem v_132 (a1 : Int32) (a2 : Int32) (a3 : Int32) (μ : wm_M) (Q : Option Value → wm_M → Prop) (h : wm_OkI 0 166 [.ref 0, .int a1, .int a2, .int a3] μ (fun r2 μ1 => ((r2 = (0 : Int32) → wm_OkI 0 162 [.ref 0, .int (-3 : Int32)] μ1 (fun r4 μ3 => Q (some (.int r4)) μ3)) ∧ (¬ r2 = (0 : Int32) → wm_Wp 0 132 17 [.ref 0, .int a1, .int a2, .int a3] μ1 Q)))) : wm_Ok 0 132 [.ref 0, .int a1, .int a2, .int a3] μ Q := f_132 a1 a2 a3 μ Q (wm_OkI.mono h (fun r2 μ1 h2 => ⟨fun c1 => (f_132_10  μ1 Q (h2.1 c1)), fun c1 => (h2.2 c1)⟩))
-- .. at 17
set_option maxRecDepth 100000 in
theorem w_132_17 (x1 : Int32) (x2 : Int32) (x3 : Int32) (μ : wm_M) (Q : Option Value → wm_M → Prop) (h : (¬ (10 : Int32) = 0 ∧ (vp_in (x1 - x1 / (10 : Int32) * (10 : Int32)) 3 ∧ wm_OkV 0 47 [.ref 1, .int x2, .int (μ.1 14 ((x1 - x1 / (10 : Int32) * (10 : Int32))).toNatClampNeg), .int x3] μ (fun μ1 => (¬ (10 : Int32) = 0 ∧ wm_OkI 0 64 [.ref 18, .int (x1 / (10 : Int32))] μ1 (fun r3 μ2 => Q (some (.int r3)) μ2)))))) : wm_Wp 0 132 17 [.ref 0, .int x1, .int x2, .int x3] μ Q := f_132_17 x1 x2 x3 μ Q ⟨h.1, ⟨h.2.1, (wm_OkV.mono h.2.2 (fun μ1 h1 => (f_132_41 x1 μ1 Q h1)))⟩⟩
-- WindBoat.why(III)I
set_option maxRecDepth 100000 in
theorem v_133 (a1 : Int32) (a2 : Int32) (a3 : Int32) (μ : wm_M) (Q : Option Value → wm_M → Prop) (h : wm_OkI 0 166 [.ref 0, .int a1, .int a2, .int a3] μ (fun r2 μ1 => ((r2 = (0 : Int32) → wm_OkI 0 161 [.ref 0, .int (-3 : Int32)] μ1 (fun r4 μ3 => Q (some (.int r4)) μ3)) ∧ (¬ r2 = (0 : Int32) → wm_Wp 0 133 17 [.ref 0, .int a1, .int a2, .int a3] μ1 Q)))) : wm_Ok 0 133 [.ref 0, .int a1, .int a2, .int a3] μ Q := f_133 a1 a2 a3 μ Q (wm_OkI.mono h (fun r2 μ1 h2 => ⟨fun c1 => (f_133_10  μ1 Q (h2.1 c1)), fun c1 => (h2.2 c1)⟩))
-- .. at 17
set_option maxRecDepth 100000 in
theorem w_133_17 (x1 : Int32) (x2 : Int32) (x3 : Int32) (μ : wm_M) (Q : Option Value → wm_M → Prop) (h : (¬ (10 : Int32) = 0 ∧ (vp_in (x1 - x1 / (10 : Int32) * (10 : Int32)) 3 ∧ wm_OkV 0 47 [.ref 1, .int x2, .int (μ.1 14 ((x1 - x1 / (10 : Int32) * (10 : Int32))).toNatClampNeg), .int x3] μ (fun μ1 => (¬ (10 : Int32) = 0 ∧ wm_OkI 0 63 [.ref 18, .int (x1 / (10 : Int32))] μ1 (fun r3 μ2 => Q (some (.int r3)) μ2)))))) : wm_Wp 0 133 17 [.ref 0, .int x1, .int x2, .int x3] μ Q := f_133_17 x1 x2 x3 μ Q ⟨h.1, ⟨h.2.1, (wm_OkV.mono h.2.2 (fun μ1 h1 => (f_133_41 x1 μ1 Q h1)))⟩⟩
-- WindBoat.soonest(III)I
set_option maxRecDepth 100000 in
theorem v_134 (a1 : Int32) (a2 : Int32) (a3 : Int32) (μ : wm_M) (Q : Option Value → wm_M → Prop) (h : (((μ.1 13 0) = (0 : Int32) → wm_OkI 0 161 [.ref 0, .int (-2 : Int32)] μ (fun r2 μ1 => Q (some (.int r2)) μ1)) ∧ (¬ (μ.1 13 0) = (0 : Int32) → wm_Wp 0 134 20 [.ref 0, .int a1, .int a2, .int a3, .null] μ Q))) : wm_Ok 0 134 [.ref 0, .int a1, .int a2, .int a3] μ Q := f_134 a1 a2 a3 μ Q h
-- .. at 20
set_option maxRecDepth 100000 in
theorem w_134_20 (x1 : Int32) (x2 : Int32) (x3 : Int32) (μ : wm_M) (Q : Option Value → wm_M → Prop) (h : wm_OkI 0 169 [.int x1] μ (fun r2 μ1 => ((r2 = (0 : Int32) → wm_Wp 0 134 34 [.ref 0, .null, .null, .null, .null] μ1 Q) ∧ (¬ r2 = (0 : Int32) → wm_OkI 0 167 [.int x2] μ1 (fun r4 μ3 => ((r4 = (0 : Int32) → wm_Wp 0 134 34 [.ref 0, .null, .null, .null, .null] μ3 Q) ∧ (¬ r4 = (0 : Int32) → wm_Wp 0 134 41 [.ref 0, .int x1, .int x2, .int x3, .null] μ3 Q))))))) : wm_Wp 0 134 20 [.ref 0, .int x1, .int x2, .int x3, .null] μ Q := f_134_20 x1 x2 x3 μ Q (wm_OkI.mono h (fun r2 μ1 h2 => ⟨fun c1 => (h2.1 c1), fun c1 => (f_134_27 x1 x2 x3 μ1 Q (h2.2 c1))⟩))
-- .. at 34
set_option maxRecDepth 100000 in
theorem w_134_34 (μ : wm_M) (Q : Option Value → wm_M → Prop) (h : wm_OkI 0 161 [.ref 0, .int (-3 : Int32)] μ (fun r2 μ1 => Q (some (.int r2)) μ1)) : wm_Wp 0 134 34 [.ref 0, .null, .null, .null, .null] μ Q := f_134_34  μ Q h
-- .. at 41
set_option maxRecDepth 100000 in
theorem w_134_41 (x1 : Int32) (x2 : Int32) (x3 : Int32) (μ : wm_M) (Q : Option Value → wm_M → Prop) (h : wm_OkI 0 176 [.int x3] μ (fun r2 μ1 => ((r2 = (0 : Int32) → wm_OkI 0 161 [.ref 0, .int (-7 : Int32)] μ1 (fun r4 μ3 => Q (some (.int r4)) μ3)) ∧ (¬ r2 = (0 : Int32) → wm_Wp 0 134 55 [.ref 0, .int x1, .int x2, .int x3, .null] μ1 Q)))) : wm_Wp 0 134 41 [.ref 0, .int x1, .int x2, .int x3, .null] μ Q := f_134_41 x1 x2 x3 μ Q (wm_OkI.mono h (fun r2 μ1 h2 => ⟨fun c1 => (f_134_48  μ1 Q (h2.1 c1)), fun c1 => (h2.2 c1)⟩))
-- .. at 55
set_option maxRecDepth 100000 in
theorem w_134_55 (x1 : Int32) (x2 : Int32) (x3 : Int32) (μ : wm_M) (Q : Option Value → wm_M → Prop) (h : wm_OkV 0 17 [.ref 62] μ (fun μ1 => wm_OkV 0 19 [.ref 62, .int x1, .int x3] μ1 (fun μ2 => wm_OkI 0 2 [.ref 13] μ2 (fun r4 μ3 => wm_OkI 0 49 [.ref 1] μ3 (fun r6 μ5 => wm_OkI 0 107 [.ref 69, .int r4, .int (μ3.1 13 4), .int r6, .int x2] μ5 (fun r8 μ7 => ((r8 = (-1 : Int32) → Q (some (.int (-1 : Int32))) μ7) ∧ (¬ r8 = (-1 : Int32) → wm_Wp 0 134 118 [.ref 0, .null, .null, .null, .int r8] μ7 Q)))))))) : wm_Wp 0 134 55 [.ref 0, .int x1, .int x2, .int x3, .null] μ Q := f_134_55 x1 x2 x3 μ Q (wm_OkV.mono h (fun μ1 h5 => (f_134_62 x1 x2 x3 μ1 Q (wm_OkV.mono h5 (fun μ2 h4 => (f_134_71 x2 μ2 Q (wm_OkI.mono h4 (fun r4 μ3 h3 => (wm_OkI.mono h3 (fun r6 μ5 h2 => (wm_OkI.mono h2 (fun r8 μ7 h1 => (f_134_108 r8 μ7 Q h1)))))))))))))
-- .. at 118
set_option maxRecDepth 100000 in
theorem w_134_118 (x4 : Int32) (μ : wm_M) (Q : Option Value → wm_M → Prop) (h : (vp_in x4 864 ∧ Q (some (.int (μ.1 70 (x4).toNatClampNeg))) μ)) : wm_Wp 0 134 118 [.ref 0, .null, .null, .null, .int x4] μ Q := f_134_118 x4 μ Q h
-- WindBoat.plan(III)I
set_option maxRecDepth 100000 in
theorem v_135 (a1 : Int32) (a2 : Int32) (a3 : Int32) (μ : wm_M) (Q : Option Value → wm_M → Prop) (h : (((μ.1 13 0) = (0 : Int32) → wm_OkI 0 161 [.ref 0, .int (-2 : Int32)] μ (fun r2 μ1 => Q (some (.int r2)) μ1)) ∧ (¬ (μ.1 13 0) = (0 : Int32) → wm_Wp 0 135 20 [.ref 0, .int a1, .int a2, .int a3, .null] μ Q))) : wm_Ok 0 135 [.ref 0, .int a1, .int a2, .int a3] μ Q := f_135 a1 a2 a3 μ Q h
-- .. at 20
set_option maxRecDepth 100000 in
theorem w_135_20 (x1 : Int32) (x2 : Int32) (x3 : Int32) (μ : wm_M) (Q : Option Value → wm_M → Prop) (h : wm_OkI 0 169 [.int x1] μ (fun r2 μ1 => ((r2 = (0 : Int32) → wm_Wp 0 135 34 [.ref 0, .null, .null, .null, .null] μ1 Q) ∧ (¬ r2 = (0 : Int32) → wm_OkI 0 167 [.int x2] μ1 (fun r4 μ3 => ((r4 = (0 : Int32) → wm_Wp 0 135 34 [.ref 0, .null, .null, .null, .null] μ3 Q) ∧ (¬ r4 = (0 : Int32) → wm_Wp 0 135 41 [.ref 0, .int x1, .int x2, .int x3, .null] μ3 Q))))))) : wm_Wp 0 135 20 [.ref 0, .int x1, .int x2, .int x3, .null] μ Q := f_135_20 x1 x2 x3 μ Q (wm_OkI.mono h (fun r2 μ1 h2 => ⟨fun c1 => (h2.1 c1), fun c1 => (f_135_27 x1 x2 x3 μ1 Q (h2.2 c1))⟩))
-- .. at 34
set_option maxRecDepth 100000 in
theorem w_135_34 (μ : wm_M) (Q : Option Value → wm_M → Prop) (h : wm_OkI 0 161 [.ref 0, .int (-3 : Int32)] μ (fun r2 μ1 => Q (some (.int r2)) μ1)) : wm_Wp 0 135 34 [.ref 0, .null, .null, .null, .null] μ Q := f_135_34  μ Q h
-- .. at 41
set_option maxRecDepth 100000 in
theorem w_135_41 (x1 : Int32) (x2 : Int32) (x3 : Int32) (μ : wm_M) (Q : Option Value → wm_M → Prop) (h : (((-1 : Int32) ≤ x3 → wm_Wp 0 135 53 [.ref 0, .int x1, .int x2, .int x3, .null] μ Q) ∧ (¬ (-1 : Int32) ≤ x3 → wm_OkI 0 161 [.ref 0, .int (-7 : Int32)] μ (fun r2 μ1 => Q (some (.int r2)) μ1)))) : wm_Wp 0 135 41 [.ref 0, .int x1, .int x2, .int x3, .null] μ Q := f_135_41 x1 x2 x3 μ Q h
-- .. at 53
set_option maxRecDepth 100000 in
theorem w_135_53 (x1 : Int32) (x2 : Int32) (x3 : Int32) (μ : wm_M) (Q : Option Value → wm_M → Prop) (h : wm_OkV 0 17 [.ref 62] μ (fun μ1 => wm_OkV 0 19 [.ref 62, .int x1, .int (1 : Int32)] μ1 (fun μ2 => wm_OkI 0 2 [.ref 13] μ2 (fun r4 μ3 => wm_OkI 0 49 [.ref 1] μ3 (fun r6 μ5 => wm_OkI 0 112 [.ref 69, .int r4, .int (μ3.1 13 4), .int r6, .int x2] μ5 (fun r8 μ7 => ((x3 = (-1 : Int32) → Q (some (.int r8)) μ7) ∧ (¬ x3 = (-1 : Int32) → wm_Wp 0 135 114 [.ref 0, .null, .null, .int x3, .int r8] μ7 Q)))))))) : wm_Wp 0 135 53 [.ref 0, .int x1, .int x2, .int x3, .null] μ Q := f_135_53 x1 x2 x3 μ Q (wm_OkV.mono h (fun μ1 h5 => (f_135_60 x1 x2 x3 μ1 Q (wm_OkV.mono h5 (fun μ2 h4 => (f_135_69 x2 x3 μ2 Q (wm_OkI.mono h4 (fun r4 μ3 h3 => (wm_OkI.mono h3 (fun r6 μ5 h2 => (wm_OkI.mono h2 (fun r8 μ7 h1 => (f_135_106 x3 r8 μ7 Q h1)))))))))))))
-- .. at 114
set_option maxRecDepth 100000 in
theorem w_135_114 (x3 : Int32) (x4 : Int32) (μ : wm_M) (Q : Option Value → wm_M → Prop) (h : ((x4 ≤ x3 → wm_Wp 0 135 132 [.null, .null, .null, .null, .null] μ Q) ∧ (¬ x4 ≤ x3 → (vp_in x3 121 ∧ Q (some (.int (μ.1 74 (x3).toNatClampNeg))) μ)))) : wm_Wp 0 135 114 [.ref 0, .null, .null, .int x3, .int x4] μ Q := f_135_114 x3 x4 μ Q h
-- .. at 132
set_option maxRecDepth 100000 in
theorem w_135_132 (μ : wm_M) (Q : Option Value → wm_M → Prop) (h : Q (some (.int (-1 : Int32))) μ) : wm_Wp 0 135 132 [.null, .null, .null, .null, .null] μ Q := f_135_132  μ Q h
-- WindBoat.telling(II)I
set_option maxRecDepth 100000 in
theorem v_136 (a1 : Int32) (a2 : Int32) (μ : wm_M) (Q : Option Value → wm_M → Prop) (h : wm_OkI 0 175 [.int a1] μ (fun r2 μ1 => ((r2 = (0 : Int32) → wm_Wp 0 136 19 [.ref 0, .null, .null, .null, .null] μ1 Q) ∧ (¬ r2 = (0 : Int32) → wm_OkI 0 175 [.int a2] μ1 (fun r4 μ3 => ((r4 = (0 : Int32) → wm_Wp 0 136 19 [.ref 0, .null, .null, .null, .null] μ3 Q) ∧ (¬ r4 = (0 : Int32) → ((a1 ≤ a2 → wm_Wp 0 136 26 [.ref 0, .int a1, .int a2, .null, .null] μ3 Q) ∧ (¬ a1 ≤ a2 → wm_Wp 0 136 19 [.ref 0, .null, .null, .null, .null] μ3 Q))))))))) : wm_Ok 0 136 [.ref 0, .int a1, .int a2] μ Q := f_136 a1 a2 μ Q (wm_OkI.mono h (fun r2 μ1 h4 => ⟨fun c3 => (h4.1 c3), fun c3 => (f_136_7 a1 a2 μ1 Q (wm_OkI.mono (h4.2 c3) (fun r4 μ3 h2 => ⟨fun c1 => (h2.1 c1), fun c1 => (f_136_14 a1 a2 μ3 Q (h2.2 c1))⟩)))⟩))
-- .. at 19
set_option maxRecDepth 100000 in
theorem w_136_19 (μ : wm_M) (Q : Option Value → wm_M → Prop) (h : wm_OkI 0 161 [.ref 0, .int (-7 : Int32)] μ (fun r2 μ1 => Q (some (.int r2)) μ1)) : wm_Wp 0 136 19 [.ref 0, .null, .null, .null, .null] μ Q := f_136_19  μ Q h
-- .. at 26
set_option maxRecDepth 100000 in
theorem w_136_26 (x1 : Int32) (x2 : Int32) (μ : wm_M) (Q : Option Value → wm_M → Prop) (h : wm_OkR 0 163 [.ref 0] μ (fun μ1 => Q (some (.int (μ1.1 1 4))) (wm_si (wm_si μ1 1 4 x1) 1 5 x2))) : wm_Wp 0 136 26 [.ref 0, .int x1, .int x2, .null, .null] μ Q := f_136_26 x1 x2 μ Q (wm_OkR.mono h (fun μ1 h1 => (f_136_31 x1 x2 μ1 Q (f_136_42 x2 (μ1.1 1 4) (wm_si μ1 1 4 x1) Q (f_136_47 (μ1.1 1 4) (wm_si (wm_si μ1 1 4 x1) 1 5 x2) Q h1)))))
-- WindBoat.choice(II)I
set_option maxRecDepth 100000 in
theorem v_137 (a1 : Int32) (a2 : Int32) (μ : wm_M) (Q : Option Value → wm_M → Prop) (h : wm_OkI 0 178 [.int a1, .int (0 : Int32), .int (2 : Int32)] μ (fun r2 μ1 => ((r2 = (0 : Int32) → wm_Wp 0 137 16 [.ref 0, .null, .null] μ1 Q) ∧ (¬ r2 = (0 : Int32) → wm_OkI 0 167 [.int a2] μ1 (fun r4 μ3 => ((r4 = (0 : Int32) → wm_Wp 0 137 16 [.ref 0, .null, .null] μ3 Q) ∧ (¬ r4 = (0 : Int32) → wm_Wp 0 137 23 [.ref 0, .int a1, .int a2] μ3 Q))))))) : wm_Ok 0 137 [.ref 0, .int a1, .int a2] μ Q := f_137 a1 a2 μ Q (wm_OkI.mono h (fun r2 μ1 h2 => ⟨fun c1 => (h2.1 c1), fun c1 => (f_137_9 a1 a2 μ1 Q (h2.2 c1))⟩))
-- .. at 16
set_option maxRecDepth 100000 in
theorem w_137_16 (μ : wm_M) (Q : Option Value → wm_M → Prop) (h : wm_OkI 0 161 [.ref 0, .int (-3 : Int32)] μ (fun r2 μ1 => Q (some (.int r2)) μ1)) : wm_Wp 0 137 16 [.ref 0, .null, .null] μ Q := f_137_16  μ Q h
-- .. at 23
set_option maxRecDepth 100000 in
theorem w_137_23 (x1 : Int32) (x2 : Int32) (μ : wm_M) (Q : Option Value → wm_M → Prop) (h : wm_OkR 0 163 [.ref 0] μ (fun μ1 => wm_OkI 0 179 [.ref 27, .int x1, .int x2] μ1 (fun r3 μ2 => Q (some (.int r3)) μ2))) : wm_Wp 0 137 23 [.ref 0, .int x1, .int x2] μ Q := f_137_23 x1 x2 μ Q h
-- WindBoat.group(II)I
set_option maxRecDepth 100000 in
theorem v_138 (a1 : Int32) (a2 : Int32) (μ : wm_M) (Q : Option Value → wm_M → Prop) (h : wm_OkI 0 170 [.int a1] μ (fun r2 μ1 => ((r2 = (0 : Int32) → wm_OkI 0 161 [.ref 0, .int (-3 : Int32)] μ1 (fun r4 μ3 => Q (some (.int r4)) μ3)) ∧ (¬ r2 = (0 : Int32) → wm_Wp 0 138 14 [.ref 0, .int a1, .int a2] μ1 Q)))) : wm_Ok 0 138 [.ref 0, .int a1, .int a2] μ Q := f_138 a1 a2 μ Q (wm_OkI.mono h (fun r2 μ1 h2 => ⟨fun c1 => (f_138_7  μ1 Q (h2.1 c1)), fun c1 => (h2.2 c1)⟩))
-- .. at 14
set_option maxRecDepth 100000 in
theorem w_138_14 (x1 : Int32) (x2 : Int32) (μ : wm_M) (Q : Option Value → wm_M → Prop) (h : wm_OkI 0 178 [.int x2, .int (0 : Int32), .int (2 : Int32)] μ (fun r2 μ1 => ((r2 = (0 : Int32) → wm_OkI 0 161 [.ref 0, .int (-7 : Int32)] μ1 (fun r4 μ3 => Q (some (.int r4)) μ3)) ∧ (¬ r2 = (0 : Int32) → wm_Wp 0 138 30 [.ref 0, .int x1, .int x2] μ1 Q)))) : wm_Wp 0 138 14 [.ref 0, .int x1, .int x2] μ Q := f_138_14 x1 x2 μ Q (wm_OkI.mono h (fun r2 μ1 h2 => ⟨fun c1 => (f_138_23  μ1 Q (h2.1 c1)), fun c1 => (h2.2 c1)⟩))
-- .. at 30
set_option maxRecDepth 100000 in
theorem w_138_30 (x1 : Int32) (x2 : Int32) (μ : wm_M) (Q : Option Value → wm_M → Prop) (h : wm_OkR 0 163 [.ref 0] μ (fun μ1 => wm_OkI 0 179 [.ref 28, .int x1, .int x2] μ1 (fun r3 μ2 => Q (some (.int r3)) μ2))) : wm_Wp 0 138 30 [.ref 0, .int x1, .int x2] μ Q := f_138_30 x1 x2 μ Q h
-- WindBoat.comes(II)I
set_option maxRecDepth 100000 in
theorem v_139 (a1 : Int32) (a2 : Int32) (μ : wm_M) (Q : Option Value → wm_M → Prop) (h : (((μ.1 13 0) = (0 : Int32) → wm_OkI 0 161 [.ref 0, .int (-2 : Int32)] μ (fun r2 μ1 => Q (some (.int r2)) μ1)) ∧ (¬ (μ.1 13 0) = (0 : Int32) → wm_Wp 0 139 20 [.ref 0, .int a1, .int a2, .null, .null] μ Q))) : wm_Ok 0 139 [.ref 0, .int a1, .int a2] μ Q := f_139 a1 a2 μ Q h
-- .. at 20
set_option maxRecDepth 100000 in
theorem w_139_20 (x1 : Int32) (x2 : Int32) (μ : wm_M) (Q : Option Value → wm_M → Prop) (h : (¬ (10 : Int32) = 0 ∧ (¬ (10 : Int32) = 0 ∧ ((x1 < (0 : Int32) → wm_Wp 0 139 53 [.ref 0, .null, .null, .null, .null] μ Q) ∧ (¬ x1 < (0 : Int32) → (((3 : Int32) ≤ (x1 / (10 : Int32)) → wm_Wp 0 139 53 [.ref 0, .null, .null, .null, .null] μ Q) ∧ (¬ (3 : Int32) ≤ (x1 / (10 : Int32)) → (((3 : Int32) ≤ (x1 - x1 / (10 : Int32) * (10 : Int32)) → wm_Wp 0 139 53 [.ref 0, .null, .null, .null, .null] μ Q) ∧ (¬ (3 : Int32) ≤ (x1 - x1 / (10 : Int32) * (10 : Int32)) → wm_OkI 0 170 [.int x2] μ (fun r2 μ1 => ((r2 = (0 : Int32) → wm_Wp 0 139 53 [.ref 0, .null, .null, .null, .null] μ1 Q) ∧ (¬ r2 = (0 : Int32) → wm_Wp 0 139 60 [.ref 0, .null, .int x2, .int (x1 / (10 : Int32)), .int (x1 - x1 / (10 : Int32) * (10 : Int32))] μ1 Q)))))))))))) : wm_Wp 0 139 20 [.ref 0, .int x1, .int x2, .null, .null] μ Q := f_139_20 x1 x2 μ Q ⟨h.1, ⟨h.2.1, ⟨fun c2 => (h.2.2.1 c2), fun c2 => ⟨fun c1 => ((h.2.2.2 c2).1 c1), fun c1 => (f_139_40 x2 (x1 / (10 : Int32)) (x1 - x1 / (10 : Int32) * (10 : Int32)) μ Q ((h.2.2.2 c2).2 c1))⟩⟩⟩⟩
-- .. at 53
set_option maxRecDepth 100000 in
theorem w_139_53 (μ : wm_M) (Q : Option Value → wm_M → Prop) (h : wm_OkI 0 161 [.ref 0, .int (-3 : Int32)] μ (fun r2 μ1 => Q (some (.int r2)) μ1)) : wm_Wp 0 139 53 [.ref 0, .null, .null, .null, .null] μ Q := f_139_53  μ Q h
-- .. at 60
set_option maxRecDepth 100000 in
theorem w_139_60 (x2 : Int32) (x3 : Int32) (x4 : Int32) (μ : wm_M) (Q : Option Value → wm_M → Prop) (h : wm_OkV 0 17 [.ref 62] μ (fun μ1 => wm_OkI 0 49 [.ref 1] μ1 (fun r3 μ2 => wm_OkI 0 28 [.ref 75, .int x2, .int x3, .int x4, .int r3] μ2 (fun r5 μ4 => Q (some (.int r5)) μ4)))) : wm_Wp 0 139 60 [.ref 0, .null, .int x2, .int x3, .int x4] μ Q := f_139_60 x2 x3 x4 μ Q (wm_OkV.mono h (fun μ1 h1 => (f_139_67 x2 x3 x4 μ1 Q h1)))
-- WindBoat.tree(II)J
set_option maxRecDepth 100000 in
theorem v_140 (a1 : Int32) (a2 : Int32) (μ : wm_M) (Q : Option Value → wm_M → Prop) (h : (((μ.1 13 0) = (0 : Int32) → wm_Wp 0 140 26 [.ref 0, .null, .null] μ Q) ∧ (¬ (μ.1 13 0) = (0 : Int32) → wm_OkI 0 78 [.ref 2] μ (fun r2 μ1 => ((r2 = (0 : Int32) → wm_Wp 0 140 26 [.ref 0, .null, .null] μ1 Q) ∧ (¬ r2 = (0 : Int32) → wm_Wp 0 140 34 [.ref 0, .int a1, .int a2] μ1 Q)))))) : wm_Ok 0 140 [.ref 0, .int a1, .int a2] μ Q := f_140 a1 a2 μ Q h
-- .. at 26
set_option maxRecDepth 100000 in
theorem w_140_26 (μ : wm_M) (Q : Option Value → wm_M → Prop) (h : wm_OkI 0 161 [.ref 0, .int (-2 : Int32)] μ (fun r2 μ1 => Q (some (.long (r2).toInt64)) μ1)) : wm_Wp 0 140 26 [.ref 0, .null, .null] μ Q := f_140_26  μ Q h
-- .. at 34
set_option maxRecDepth 100000 in
theorem w_140_34 (x1 : Int32) (x2 : Int32) (μ : wm_M) (Q : Option Value → wm_M → Prop) (h : wm_OkI 0 178 [.int x1, .int (0 : Int32), .int (2 : Int32)] μ (fun r2 μ1 => ((r2 = (0 : Int32) → wm_Wp 0 140 52 [.ref 0, .null, .null] μ1 Q) ∧ (¬ r2 = (0 : Int32) → wm_OkI 0 178 [.int x2, .int (0 : Int32), .int (5 : Int32)] μ1 (fun r4 μ3 => ((r4 = (0 : Int32) → wm_Wp 0 140 52 [.ref 0, .null, .null] μ3 Q) ∧ (¬ r4 = (0 : Int32) → wm_Wp 0 140 60 [.ref 0, .int x1, .int x2] μ3 Q))))))) : wm_Wp 0 140 34 [.ref 0, .int x1, .int x2] μ Q := f_140_34 x1 x2 μ Q (wm_OkI.mono h (fun r2 μ1 h2 => ⟨fun c1 => (h2.1 c1), fun c1 => (f_140_43 x1 x2 μ1 Q (h2.2 c1))⟩))
-- .. at 52
set_option maxRecDepth 100000 in
theorem w_140_52 (μ : wm_M) (Q : Option Value → wm_M → Prop) (h : wm_OkI 0 161 [.ref 0, .int (-7 : Int32)] μ (fun r2 μ1 => Q (some (.long (r2).toInt64)) μ1)) : wm_Wp 0 140 52 [.ref 0, .null, .null] μ Q := f_140_52  μ Q h
-- .. at 60
set_option maxRecDepth 100000 in
theorem w_140_60 (x1 : Int32) (x2 : Int32) (μ : wm_M) (Q : Option Value → wm_M → Prop) (h : wm_OkV 0 17 [.ref 62] μ (fun μ1 => wm_OkI 0 49 [.ref 1] μ1 (fun r3 μ2 => wm_OkV 0 30 [.ref 75, .int r3] μ2 (fun μ4 => wm_OkV 0 33 [.ref 75, .int x1, .int (0 : Int32)] μ4 (fun μ5 => (((∀ q ∈ (#[(0, 33), (1, 42), (5, 50)] : Array (Int × Int)).toList, ¬ (x2).toInt = q.1) → wm_Wp 0 140 149 [.ref 0, .null, .int x2] μ5 Q) ∧ (((x2).toInt = 0 → wm_Wp 0 140 124 [.ref 0, .null, .null] μ5 Q) ∧ (((x2).toInt = 1 → wm_Wp 0 140 133 [.ref 0, .null, .null] μ5 Q) ∧ (((x2).toInt = 5 → wm_Wp 0 140 141 [.ref 0, .null, .null] μ5 Q) ∧ True))))))))) : wm_Wp 0 140 60 [.ref 0, .int x1, .int x2] μ Q := f_140_60 x1 x2 μ Q (wm_OkV.mono h (fun μ1 h4 => (f_140_67 x1 x2 μ1 Q (wm_OkI.mono h4 (fun r3 μ2 h3 => (wm_OkV.mono h3 (fun μ4 h2 => (f_140_81 x1 x2 μ4 Q (wm_OkV.mono h2 (fun μ5 h1 => (f_140_90 x2 μ5 Q h1)))))))))))
-- .. at 124
set_option maxRecDepth 100000 in
theorem w_140_124 (μ : wm_M) (Q : Option Value → wm_M → Prop) (h : Q (some (.long ((μ.1 75 7)).toInt64)) μ) : wm_Wp 0 140 124 [.ref 0, .null, .null] μ Q := f_140_124  μ Q h
-- .. at 133
set_option maxRecDepth 100000 in
theorem w_140_133 (μ : wm_M) (Q : Option Value → wm_M → Prop) (h : Q (some (.long (μ.2 75 8))) μ) : wm_Wp 0 140 133 [.ref 0, .null, .null] μ Q := f_140_133  μ Q h
-- .. at 141
set_option maxRecDepth 100000 in
theorem w_140_141 (μ : wm_M) (Q : Option Value → wm_M → Prop) (h : wm_OkJ 0 36 [.ref 75] μ (fun r2 μ1 => Q (some (.long r2)) μ1)) : wm_Wp 0 140 141 [.ref 0, .null, .null] μ Q := f_140_141  μ Q h
-- .. at 149
set_option maxRecDepth 100000 in
theorem w_140_149 (x2 : Int32) (μ : wm_M) (Q : Option Value → wm_M → Prop) (h : (vp_in (x2 - (2 : Int32)) 3 ∧ Q (some (.long ((μ.1 79 ((x2 - (2 : Int32))).toNatClampNeg)).toInt64)) μ)) : wm_Wp 0 140 149 [.ref 0, .null, .int x2] μ Q := f_140_149 x2 μ Q h
-- WindBoat.worth()J
set_option maxRecDepth 100000 in
theorem v_141 (μ : wm_M) (Q : Option Value → wm_M → Prop) (h : (((μ.1 13 0) = (0 : Int32) → wm_Wp 0 141 26 [.ref 0, .null, .null] μ Q) ∧ (¬ (μ.1 13 0) = (0 : Int32) → wm_OkI 0 78 [.ref 2] μ (fun r2 μ1 => ((r2 = (0 : Int32) → wm_Wp 0 141 26 [.ref 0, .null, .null] μ1 Q) ∧ (¬ r2 = (0 : Int32) → wm_Wp 0 141 34 [.ref 0, .null, .null] μ1 Q)))))) : wm_Ok 0 141 [.ref 0] μ Q := f_141  μ Q h
-- .. at 26
set_option maxRecDepth 100000 in
theorem w_141_26 (μ : wm_M) (Q : Option Value → wm_M → Prop) (h : wm_OkI 0 161 [.ref 0, .int (-2 : Int32)] μ (fun r2 μ1 => Q (some (.long (r2).toInt64)) μ1)) : wm_Wp 0 141 26 [.ref 0, .null, .null] μ Q := f_141_26  μ Q h
-- .. at 34
set_option maxRecDepth 100000 in
theorem w_141_34 (μ : wm_M) (Q : Option Value → wm_M → Prop) (h : wm_OkV 0 17 [.ref 62] μ (fun μ1 => wm_OkI 0 49 [.ref 1] μ1 (fun r3 μ2 => wm_OkV 0 30 [.ref 75, .int r3] μ2 (fun μ4 => wm_OkV 0 33 [.ref 75, .int (0 : Int32), .int (1 : Int32)] μ4 (fun μ5 => wm_OkV 0 33 [.ref 75, .int (0 : Int32), .int (0 : Int32)] μ5 (fun μ6 => Q (some (.long ((μ5.2 75 8) - (μ6.2 75 8)))) μ6)))))) : wm_Wp 0 141 34 [.ref 0, .null, .null] μ Q := f_141_34  μ Q (wm_OkV.mono h (fun μ1 h5 => (f_141_41  μ1 Q (wm_OkI.mono h5 (fun r3 μ2 h4 => (wm_OkV.mono h4 (fun μ4 h3 => (f_141_55  μ4 Q (wm_OkV.mono h3 (fun μ5 h2 => (f_141_64  μ5 Q (wm_OkV.mono h2 (fun μ6 h1 => (f_141_81 (μ5.2 75 8) μ6 Q h1))))))))))))))
-- WindBoat.weight(I)I
set_option maxRecDepth 100000 in
theorem v_142 (a1 : Int32) (μ : wm_M) (Q : Option Value → wm_M → Prop) (h : wm_OkI 0 170 [.int a1] μ (fun r2 μ1 => ((r2 = (0 : Int32) → wm_Wp 0 142 21 [.ref 0, .null] μ1 Q) ∧ (¬ r2 = (0 : Int32) → wm_OkI 0 81 [.ref 2, .int a1] μ1 (fun r4 μ3 => Q (some (.int r4)) μ3))))) : wm_Ok 0 142 [.ref 0, .int a1] μ Q := f_142 a1 μ Q (wm_OkI.mono h (fun r2 μ1 h2 => ⟨fun c1 => (h2.1 c1), fun c1 => (f_142_7 a1 μ1 Q (h2.2 c1))⟩))
-- .. at 21
set_option maxRecDepth 100000 in
theorem w_142_21 (μ : wm_M) (Q : Option Value → wm_M → Prop) (h : wm_OkI 0 161 [.ref 0, .int (-3 : Int32)] μ (fun r2 μ1 => Q (some (.int r2)) μ1)) : wm_Wp 0 142 21 [.ref 0, .null] μ Q := f_142_21  μ Q h
-- WindBoat.rival(III)I
set_option maxRecDepth 100000 in
theorem v_143 (a1 : Int32) (a2 : Int32) (a3 : Int32) (μ : wm_M) (Q : Option Value → wm_M → Prop) (h : wm_OkI 0 178 [.int a1, .int (0 : Int32), .int (5 : Int32)] μ (fun r2 μ1 => ((r2 = (0 : Int32) → wm_Wp 0 143 16 [.ref 0, .null, .null, .null] μ1 Q) ∧ (¬ r2 = (0 : Int32) → wm_OkI 0 170 [.int a2] μ1 (fun r4 μ3 => ((r4 = (0 : Int32) → wm_Wp 0 143 16 [.ref 0, .null, .null, .null] μ3 Q) ∧ (¬ r4 = (0 : Int32) → wm_Wp 0 143 23 [.ref 0, .int a1, .int a2, .int a3] μ3 Q))))))) : wm_Ok 0 143 [.ref 0, .int a1, .int a2, .int a3] μ Q := f_143 a1 a2 a3 μ Q (wm_OkI.mono h (fun r2 μ1 h2 => ⟨fun c1 => (h2.1 c1), fun c1 => (f_143_9 a1 a2 a3 μ1 Q (h2.2 c1))⟩))
-- .. at 16
set_option maxRecDepth 100000 in
theorem w_143_16 (μ : wm_M) (Q : Option Value → wm_M → Prop) (h : wm_OkI 0 161 [.ref 0, .int (-3 : Int32)] μ (fun r2 μ1 => Q (some (.int r2)) μ1)) : wm_Wp 0 143 16 [.ref 0, .null, .null, .null] μ Q := f_143_16  μ Q h
-- .. at 23
set_option maxRecDepth 100000 in
theorem w_143_23 (x1 : Int32) (x2 : Int32) (x3 : Int32) (μ : wm_M) (Q : Option Value → wm_M → Prop) (h : wm_OkI 0 178 [.int x3, .int (0 : Int32), .int (999 : Int32)] μ (fun r2 μ1 => ((r2 = (0 : Int32) → wm_OkI 0 161 [.ref 0, .int (-7 : Int32)] μ1 (fun r4 μ3 => Q (some (.int r4)) μ3)) ∧ (¬ r2 = (0 : Int32) → wm_Wp 0 143 41 [.ref 0, .int x1, .int x2, .int x3] μ1 Q)))) : wm_Wp 0 143 23 [.ref 0, .int x1, .int x2, .int x3] μ Q := f_143_23 x1 x2 x3 μ Q (wm_OkI.mono h (fun r2 μ1 h2 => ⟨fun c1 => (f_143_34  μ1 Q (h2.1 c1)), fun c1 => (h2.2 c1)⟩))
-- .. at 41
set_option maxRecDepth 100000 in
theorem w_143_41 (x1 : Int32) (x2 : Int32) (x3 : Int32) (μ : wm_M) (Q : Option Value → wm_M → Prop) (h : wm_OkR 0 163 [.ref 0] μ (fun μ1 => wm_OkI 0 179 [.ref 29, .int ((x2 * (6 : Int32)) + x1), .int x3] μ1 (fun r3 μ2 => Q (some (.int r3)) μ2))) : wm_Wp 0 143 41 [.ref 0, .int x1, .int x2, .int x3] μ Q := f_143_41 x1 x2 x3 μ Q h
-- WindBoat.game()I
set_option maxRecDepth 100000 in
theorem v_144 (μ : wm_M) (Q : Option Value → wm_M → Prop) (h : (((μ.1 0 9) = (-1 : Int32) → wm_OkI 0 162 [.ref 0, .int (-2 : Int32)] μ (fun r2 μ1 => Q (some (.int r2)) μ1)) ∧ (¬ (μ.1 0 9) = (-1 : Int32) → wm_Wp 0 144 15 [.ref 0, .null] μ Q))) : wm_Ok 0 144 [.ref 0] μ Q := f_144  μ Q h
-- .. at 15
set_option maxRecDepth 100000 in
theorem w_144_15 (μ : wm_M) (Q : Option Value → wm_M → Prop) (h : (((μ.1 0 9) = (4 : Int32) → wm_Wp 0 144 39 [.ref 0, .null] μ Q) ∧ (¬ (μ.1 0 9) = (4 : Int32) → (((μ.1 0 9) = (9 : Int32) → wm_Wp 0 144 39 [.ref 0, .null] μ Q) ∧ (¬ (μ.1 0 9) = (9 : Int32) → wm_OkI 0 162 [.ref 0, .int (-5 : Int32)] μ (fun r2 μ1 => Q (some (.int r2)) μ1)))))) : wm_Wp 0 144 15 [.ref 0, .null] μ Q := f_144_15  μ Q h
-- .. at 39
set_option maxRecDepth 100000 in
theorem w_144_39 (μ : wm_M) (Q : Option Value → wm_M → Prop) (h : wm_Wp 0 144 41 [.ref 0, .int (0 : Int32)] μ Q) : wm_Wp 0 144 39 [.ref 0, .null] μ Q := f_144_39  μ Q h
-- .. at 41
set_option maxRecDepth 100000 in
theorem w_144_41 (x1 : Int32) (μ : wm_M) (Q : Option Value → wm_M → Prop) (h : (((μ.1 0 9) ≤ x1 → wm_Wp 0 144 80 [.ref 0, .null] μ Q) ∧ (¬ (μ.1 0 9) ≤ x1 → (vp_in x1 12 ∧ wm_OkI 0 178 [.int (μ.1 85 (x1).toNatClampNeg), .int (-999 : Int32), .int (999 : Int32)] μ (fun r2 μ1 => ((r2 = (0 : Int32) → wm_OkI 0 162 [.ref 0, .int (-7 : Int32)] μ1 (fun r4 μ3 => Q (some (.int r4)) μ3)) ∧ (¬ r2 = (0 : Int32) → wm_Wp 0 144 74 [.ref 0, .int x1] μ1 Q))))))) : wm_Wp 0 144 41 [.ref 0, .int x1] μ Q := f_144_41 x1 μ Q ⟨fun c4 => (h.1 c4), fun c4 => ⟨(h.2 c4).1, (wm_OkI.mono (h.2 c4).2 (fun r2 μ1 h2 => ⟨fun c1 => (f_144_67  μ1 Q (h2.1 c1)), fun c1 => (h2.2 c1)⟩))⟩⟩
-- .. at 74
set_option maxRecDepth 100000 in
theorem w_144_74 (x1 : Int32) (μ : wm_M) (Q : Option Value → wm_M → Prop) (h : wm_Wp 0 144 41 [.ref 0, .int (x1 + (1 : Int32))] μ Q) : wm_Wp 0 144 74 [.ref 0, .int x1] μ Q := f_144_74 x1 μ Q h
-- .. at 80
set_option maxRecDepth 100000 in
theorem w_144_80 (μ : wm_M) (Q : Option Value → wm_M → Prop) (h : (((μ.1 0 9) = (4 : Int32) → wm_OkI 0 38 [.ref 86, .int (2 : Int32)] μ (fun r2 μ1 => Q (some (.int r2)) μ1)) ∧ (¬ (μ.1 0 9) = (4 : Int32) → wm_OkI 0 38 [.ref 86, .int (3 : Int32)] μ (fun r4 μ3 => Q (some (.int r4)) μ3)))) : wm_Wp 0 144 80 [.ref 0, .null] μ Q := f_144_80  μ Q h
-- WindBoat.at(II)I
set_option maxRecDepth 100000 in
theorem v_145 (a1 : Int32) (a2 : Int32) (μ : wm_M) (Q : Option Value → wm_M → Prop) (h : (¬ (100 : Int32) = 0 ∧ (¬ (10 : Int32) = 0 ∧ (¬ (10 : Int32) = 0 ∧ (¬ (10 : Int32) = 0 ∧ ((a1 < (0 : Int32) → wm_Wp 0 145 48 [.ref 0, .null, .null, .null, .null, .null] μ Q) ∧ (¬ a1 < (0 : Int32) → wm_OkI 0 167 [.int (a1 / (100 : Int32))] μ (fun r2 μ1 => ((r2 = (0 : Int32) → wm_Wp 0 145 48 [.ref 0, .null, .null, .null, .null, .null] μ1 Q) ∧ (¬ r2 = (0 : Int32) → wm_OkI 0 168 [.int ((a1 / (10 : Int32)) - (a1 / (10 : Int32)) / (10 : Int32) * (10 : Int32))] μ1 (fun r4 μ3 => ((r4 = (0 : Int32) → wm_Wp 0 145 48 [.ref 0, .null, .null, .null, .null, .null] μ3 Q) ∧ (¬ r4 = (0 : Int32) → wm_OkI 0 165 [.ref 0, .int (a1 - a1 / (10 : Int32) * (10 : Int32))] μ3 (fun r6 μ5 => ((r6 = (0 : Int32) → wm_Wp 0 145 48 [.ref 0, .null, .null, .null, .null, .null] μ5 Q) ∧ (¬ r6 = (0 : Int32) → wm_Wp 0 145 55 [.ref 0, .null, .int a2, .int (a1 / (100 : Int32)), .int ((a1 / (10 : Int32)) - (a1 / (10 : Int32)) / (10 : Int32) * (10 : Int32)), .int (a1 - a1 / (10 : Int32) * (10 : Int32))] μ5 Q)))))))))))))))) : wm_Ok 0 145 [.ref 0, .int a1, .int a2] μ Q := f_145 a1 a2 μ Q ⟨h.1, ⟨h.2.1, ⟨h.2.2.1, ⟨h.2.2.2.1, (f_145_20 a1 a2 (a1 / (100 : Int32)) ((a1 / (10 : Int32)) - (a1 / (10 : Int32)) / (10 : Int32) * (10 : Int32)) (a1 - a1 / (10 : Int32) * (10 : Int32)) μ Q ⟨fun c5 => (h.2.2.2.2.1 c5), fun c5 => (wm_OkI.mono (h.2.2.2.2.2 c5) (fun r2 μ1 h4 => ⟨fun c3 => (h4.1 c3), fun c3 => (f_145_31 a2 (a1 / (100 : Int32)) ((a1 / (10 : Int32)) - (a1 / (10 : Int32)) / (10 : Int32) * (10 : Int32)) (a1 - a1 / (10 : Int32) * (10 : Int32)) μ1 Q (wm_OkI.mono (h4.2 c3) (fun r4 μ3 h2 => ⟨fun c1 => (h2.1 c1), fun c1 => (f_145_39 a2 (a1 / (100 : Int32)) ((a1 / (10 : Int32)) - (a1 / (10 : Int32)) / (10 : Int32) * (10 : Int32)) (a1 - a1 / (10 : Int32) * (10 : Int32)) μ3 Q (h2.2 c1))⟩)))⟩))⟩)⟩⟩⟩⟩
-- .. at 48
set_option maxRecDepth 100000 in
theorem w_145_48 (μ : wm_M) (Q : Option Value → wm_M → Prop) (h : wm_OkI 0 161 [.ref 0, .int (-3 : Int32)] μ (fun r2 μ1 => Q (some (.int r2)) μ1)) : wm_Wp 0 145 48 [.ref 0, .null, .null, .null, .null, .null] μ Q := f_145_48  μ Q h
-- .. at 55
set_option maxRecDepth 100000 in
theorem w_145_55 (x2 : Int32) (x3 : Int32) (x4 : Int32) (x5 : Int32) (μ : wm_M) (Q : Option Value → wm_M → Prop) (h : (vp_in x3 36 ∧ (((μ.1 3 (x3).toNatClampNeg) = (0 : Int32) → wm_Wp 0 145 77 [.ref 0, .null, .int x2, .int x3, .int x4, .int x5] μ Q) ∧ (¬ (μ.1 3 (x3).toNatClampNeg) = (0 : Int32) → wm_OkI 0 161 [.ref 0, .int (-5 : Int32)] μ (fun r2 μ1 => Q (some (.int r2)) μ1))))) : wm_Wp 0 145 55 [.ref 0, .null, .int x2, .int x3, .int x4, .int x5] μ Q := f_145_55 x2 x3 x4 x5 μ Q h
-- .. at 77
set_option maxRecDepth 100000 in
theorem w_145_77 (x2 : Int32) (x3 : Int32) (x4 : Int32) (x5 : Int32) (μ : wm_M) (Q : Option Value → wm_M → Prop) (h : (vp_in x5 3 ∧ (((μ.1 15 (x5).toNatClampNeg) = (0 : Int32) → wm_OkI 0 175 [.int x2] μ (fun r2 μ1 => ((r2 = (0 : Int32) → wm_Wp 0 145 100 [.ref 0, .null, .null, .null, .null, .null] μ1 Q) ∧ (¬ r2 = (0 : Int32) → wm_Wp 0 145 107 [.ref 0, .null, .int x2, .int x3, .int x4, .int x5] μ1 Q)))) ∧ (¬ (μ.1 15 (x5).toNatClampNeg) = (0 : Int32) → wm_Wp 0 145 100 [.ref 0, .null, .null, .null, .null, .null] μ Q)))) : wm_Wp 0 145 77 [.ref 0, .null, .int x2, .int x3, .int x4, .int x5] μ Q := f_145_77 x2 x3 x4 x5 μ Q h
-- .. at 100
set_option maxRecDepth 100000 in
theorem w_145_100 (μ : wm_M) (Q : Option Value → wm_M → Prop) (h : wm_OkI 0 161 [.ref 0, .int (-7 : Int32)] μ (fun r2 μ1 => Q (some (.int r2)) μ1)) : wm_Wp 0 145 100 [.ref 0, .null, .null, .null, .null, .null] μ Q := f_145_100  μ Q h
-- .. at 107
set_option maxRecDepth 100000 in
theorem w_145_107 (x2 : Int32) (x3 : Int32) (x4 : Int32) (x5 : Int32) (μ : wm_M) (Q : Option Value → wm_M → Prop) (h : wm_OkR 0 163 [.ref 0] μ (fun μ1 => wm_OkI 0 3 [.ref 13, .int x3, .int x4, .int x5, .int x2] μ1 (fun r3 μ2 => Q (some (.int r3)) μ2))) : wm_Wp 0 145 107 [.ref 0, .null, .int x2, .int x3, .int x4, .int x5] μ Q := f_145_107 x2 x3 x4 x5 μ Q h
-- WindBoat.stay(I)I
set_option maxRecDepth 100000 in
theorem v_146 (a1 : Int32) (μ : wm_M) (Q : Option Value → wm_M → Prop) (h : (((μ.1 13 0) = (0 : Int32) → wm_OkI 0 161 [.ref 0, .int (-2 : Int32)] μ (fun r2 μ1 => Q (some (.int r2)) μ1)) ∧ (¬ (μ.1 13 0) = (0 : Int32) → wm_Wp 0 146 20 [.ref 0, .int a1] μ Q))) : wm_Ok 0 146 [.ref 0, .int a1] μ Q := f_146 a1 μ Q h
-- .. at 20
set_option maxRecDepth 100000 in
theorem w_146_20 (x1 : Int32) (μ : wm_M) (Q : Option Value → wm_M → Prop) (h : (((0 : Int32) ≤ x1 → wm_Wp 0 146 31 [.ref 0, .int x1] μ Q) ∧ (¬ (0 : Int32) ≤ x1 → wm_OkI 0 161 [.ref 0, .int (-4 : Int32)] μ (fun r2 μ1 => Q (some (.int r2)) μ1)))) : wm_Wp 0 146 20 [.ref 0, .int x1] μ Q := f_146_20 x1 μ Q h
-- .. at 31
set_option maxRecDepth 100000 in
theorem w_146_31 (x1 : Int32) (μ : wm_M) (Q : Option Value → wm_M → Prop) (h : ((x1 = (0 : Int32) → wm_Wp 0 146 41 [.ref 0, .null] μ Q) ∧ (¬ x1 = (0 : Int32) → ((x1 ≤ (60 : Int32) → wm_Wp 0 146 48 [.ref 0, .int x1] μ Q) ∧ (¬ x1 ≤ (60 : Int32) → wm_Wp 0 146 41 [.ref 0, .null] μ Q))))) : wm_Wp 0 146 31 [.ref 0, .int x1] μ Q := f_146_31 x1 μ Q h
-- .. at 41
set_option maxRecDepth 100000 in
theorem w_146_41 (μ : wm_M) (Q : Option Value → wm_M → Prop) (h : wm_OkI 0 161 [.ref 0, .int (-7 : Int32)] μ (fun r2 μ1 => Q (some (.int r2)) μ1)) : wm_Wp 0 146 41 [.ref 0, .null] μ Q := f_146_41  μ Q h
-- .. at 48
set_option maxRecDepth 100000 in
theorem w_146_48 (x1 : Int32) (μ : wm_M) (Q : Option Value → wm_M → Prop) (h : ((((μ.1 13 4) + x1) ≤ (120 : Int32) → wm_Wp 0 146 72 [.ref 0, .int x1] μ Q) ∧ (¬ ((μ.1 13 4) + x1) ≤ (120 : Int32) → wm_OkI 0 161 [.ref 0, .int (-8 : Int32)] μ (fun r2 μ1 => Q (some (.int r2)) μ1)))) : wm_Wp 0 146 48 [.ref 0, .int x1] μ Q := f_146_48 x1 μ Q h
-- .. at 72
set_option maxRecDepth 100000 in
theorem w_146_72 (x1 : Int32) (μ : wm_M) (Q : Option Value → wm_M → Prop) (h : wm_OkR 0 163 [.ref 0] μ (fun μ1 => wm_OkV 0 52 [.ref 1, .int x1] μ1 (fun μ2 => Q (some (.int (μ2.1 13 4))) μ2))) : wm_Wp 0 146 72 [.ref 0, .int x1] μ Q := f_146_72 x1 μ Q (wm_OkR.mono h (fun μ1 h2 => (wm_OkV.mono h2 (fun μ2 h1 => (f_146_80  μ2 Q h1)))))
-- WindBoat.go(I)I
set_option maxRecDepth 100000 in
theorem v_147 (a1 : Int32) (μ : wm_M) (Q : Option Value → wm_M → Prop) (h : (((μ.1 13 0) = (0 : Int32) → wm_OkI 0 161 [.ref 0, .int (-2 : Int32)] μ (fun r2 μ1 => Q (some (.int r2)) μ1)) ∧ (¬ (μ.1 13 0) = (0 : Int32) → wm_Wp 0 147 20 [.ref 0, .int a1, .null, .null] μ Q))) : wm_Ok 0 147 [.ref 0, .int a1] μ Q := f_147 a1 μ Q h
-- .. at 20
set_option maxRecDepth 100000 in
theorem w_147_20 (x1 : Int32) (μ : wm_M) (Q : Option Value → wm_M → Prop) (h : wm_OkI 0 168 [.int x1] μ (fun r2 μ1 => ((r2 = (0 : Int32) → wm_OkI 0 161 [.ref 0, .int (-3 : Int32)] μ1 (fun r4 μ3 => Q (some (.int r4)) μ3)) ∧ (¬ r2 = (0 : Int32) → wm_Wp 0 147 34 [.ref 0, .int x1, .null, .null] μ1 Q)))) : wm_Wp 0 147 20 [.ref 0, .int x1, .null, .null] μ Q := f_147_20 x1 μ Q (wm_OkI.mono h (fun r2 μ1 h2 => ⟨fun c1 => (f_147_27  μ1 Q (h2.1 c1)), fun c1 => (h2.2 c1)⟩))
-- .. at 34
set_option maxRecDepth 100000 in
theorem w_147_34 (x1 : Int32) (μ : wm_M) (Q : Option Value → wm_M → Prop) (h : wm_OkI 0 181 [.int (μ.1 13 2), .int x1] μ (fun r2 μ1 => wm_OkI 0 164 [.ref 0, .int r2, .int x1] μ1 (fun r4 μ3 => ((r4 = (0 : Int32) → wm_Wp 0 147 79 [.ref 0, .null, .null, .null] μ3 Q) ∧ (¬ r4 = (0 : Int32) → (((((μ3.1 13 4) + r2) + r4) ≤ (120 : Int32) → wm_Wp 0 147 86 [.ref 0, .int x1, .int r2, .int r4] μ3 Q) ∧ (¬ (((μ3.1 13 4) + r2) + r4) ≤ (120 : Int32) → wm_Wp 0 147 79 [.ref 0, .null, .null, .null] μ3 Q))))))) : wm_Wp 0 147 34 [.ref 0, .int x1, .null, .null] μ Q := f_147_34 x1 μ Q (wm_OkI.mono h (fun r2 μ1 h2 => (f_147_49 x1 r2 μ1 Q (wm_OkI.mono h2 (fun r4 μ3 h1 => (f_147_56 x1 r2 r4 μ3 Q h1))))))
-- .. at 79
set_option maxRecDepth 100000 in
theorem w_147_79 (μ : wm_M) (Q : Option Value → wm_M → Prop) (h : wm_OkI 0 161 [.ref 0, .int (-7 : Int32)] μ (fun r2 μ1 => Q (some (.int r2)) μ1)) : wm_Wp 0 147 79 [.ref 0, .null, .null, .null] μ Q := f_147_79  μ Q h
-- .. at 86
set_option maxRecDepth 100000 in
theorem w_147_86 (x1 : Int32) (x2 : Int32) (x3 : Int32) (μ : wm_M) (Q : Option Value → wm_M → Prop) (h : wm_OkR 0 163 [.ref 0] μ (fun μ1 => wm_OkV 0 52 [.ref 1, .int (x2 + x3)] μ1 (fun μ2 => wm_OkV 0 4 [.ref 13, .int x1] μ2 (fun μ3 => Q (some (.int (μ3.1 13 4))) μ3)))) : wm_Wp 0 147 86 [.ref 0, .int x1, .int x2, .int x3] μ Q := f_147_86 x1 x2 x3 μ Q (wm_OkR.mono h (fun μ1 h3 => (wm_OkV.mono h3 (fun μ2 h2 => (f_147_96 x1 μ2 Q (wm_OkV.mono h2 (fun μ3 h1 => (f_147_107  μ3 Q h1))))))))
-- WindBoat.raise(I)I
set_option maxRecDepth 100000 in
theorem v_148 (a1 : Int32) (μ : wm_M) (Q : Option Value → wm_M → Prop) (h : (((μ.1 13 0) = (0 : Int32) → wm_OkI 0 161 [.ref 0, .int (-2 : Int32)] μ (fun r2 μ1 => Q (some (.int r2)) μ1)) ∧ (¬ (μ.1 13 0) = (0 : Int32) → wm_Wp 0 148 20 [.ref 0, .int a1, .null] μ Q))) : wm_Ok 0 148 [.ref 0, .int a1] μ Q := f_148 a1 μ Q h
-- .. at 20
set_option maxRecDepth 100000 in
theorem w_148_20 (x1 : Int32) (μ : wm_M) (Q : Option Value → wm_M → Prop) (h : wm_OkI 0 165 [.ref 0, .int x1] μ (fun r2 μ1 => ((r2 = (0 : Int32) → wm_OkI 0 161 [.ref 0, .int (-3 : Int32)] μ1 (fun r4 μ3 => Q (some (.int r4)) μ3)) ∧ (¬ r2 = (0 : Int32) → wm_Wp 0 148 35 [.ref 0, .int x1, .null] μ1 Q)))) : wm_Wp 0 148 20 [.ref 0, .int x1, .null] μ Q := f_148_20 x1 μ Q (wm_OkI.mono h (fun r2 μ1 h2 => ⟨fun c1 => (f_148_28  μ1 Q (h2.1 c1)), fun c1 => (h2.2 c1)⟩))
-- .. at 35
set_option maxRecDepth 100000 in
theorem w_148_35 (x1 : Int32) (μ : wm_M) (Q : Option Value → wm_M → Prop) (h : ((x1 = (μ.1 13 3) → wm_Wp 0 148 64 [.ref 0, .null, .null] μ Q) ∧ (¬ x1 = (μ.1 13 3) → (vp_in x1 3 ∧ (((μ.1 15 (x1).toNatClampNeg) = (0 : Int32) → wm_Wp 0 148 71 [.ref 0, .int x1, .null] μ Q) ∧ (¬ (μ.1 15 (x1).toNatClampNeg) = (0 : Int32) → wm_Wp 0 148 64 [.ref 0, .null, .null] μ Q)))))) : wm_Wp 0 148 35 [.ref 0, .int x1, .null] μ Q := f_148_35 x1 μ Q h
-- .. at 64
set_option maxRecDepth 100000 in
theorem w_148_64 (μ : wm_M) (Q : Option Value → wm_M → Prop) (h : wm_OkI 0 161 [.ref 0, .int (-7 : Int32)] μ (fun r2 μ1 => Q (some (.int r2)) μ1)) : wm_Wp 0 148 64 [.ref 0, .null, .null] μ Q := f_148_64  μ Q h
-- .. at 71
set_option maxRecDepth 100000 in
theorem w_148_71 (x1 : Int32) (μ : wm_M) (Q : Option Value → wm_M → Prop) (h : wm_OkI 0 49 [.ref 1] μ (fun r2 μ1 => ((((μ1.1 13 4) + r2) ≤ (120 : Int32) → wm_Wp 0 148 103 [.ref 0, .int x1, .int r2] μ1 Q) ∧ (¬ ((μ1.1 13 4) + r2) ≤ (120 : Int32) → wm_OkI 0 161 [.ref 0, .int (-8 : Int32)] μ1 (fun r4 μ3 => Q (some (.int r4)) μ3))))) : wm_Wp 0 148 71 [.ref 0, .int x1, .null] μ Q := f_148_71 x1 μ Q (wm_OkI.mono h (fun r2 μ1 h1 => (f_148_79 x1 r2 μ1 Q h1)))
-- .. at 103
set_option maxRecDepth 100000 in
theorem w_148_103 (x1 : Int32) (x2 : Int32) (μ : wm_M) (Q : Option Value → wm_M → Prop) (h : wm_OkR 0 163 [.ref 0] μ (fun μ1 => wm_OkV 0 52 [.ref 1, .int x2] μ1 (fun μ2 => Q (some (.int ((wm_si μ2 13 3 x1).1 13 4))) (wm_si μ2 13 3 x1)))) : wm_Wp 0 148 103 [.ref 0, .int x1, .int x2] μ Q := f_148_103 x1 x2 μ Q (wm_OkR.mono h (fun μ1 h2 => (wm_OkV.mono h2 (fun μ2 h1 => (f_148_111 x1 μ2 Q (f_148_122  (wm_si μ2 13 3 x1) Q h1))))))
-- WindBoat.mend(I)I
set_option maxRecDepth 100000 in
theorem v_149 (a1 : Int32) (μ : wm_M) (Q : Option Value → wm_M → Prop) (h : (((μ.1 13 0) = (0 : Int32) → wm_OkI 0 161 [.ref 0, .int (-2 : Int32)] μ (fun r2 μ1 => Q (some (.int r2)) μ1)) ∧ (¬ (μ.1 13 0) = (0 : Int32) → wm_Wp 0 149 20 [.ref 0, .int a1] μ Q))) : wm_Ok 0 149 [.ref 0, .int a1] μ Q := f_149 a1 μ Q h
-- .. at 20
set_option maxRecDepth 100000 in
theorem w_149_20 (x1 : Int32) (μ : wm_M) (Q : Option Value → wm_M → Prop) (h : wm_OkI 0 165 [.ref 0, .int x1] μ (fun r2 μ1 => ((r2 = (0 : Int32) → wm_OkI 0 161 [.ref 0, .int (-3 : Int32)] μ1 (fun r4 μ3 => Q (some (.int r4)) μ3)) ∧ (¬ r2 = (0 : Int32) → wm_Wp 0 149 35 [.ref 0, .int x1] μ1 Q)))) : wm_Wp 0 149 20 [.ref 0, .int x1] μ Q := f_149_20 x1 μ Q (wm_OkI.mono h (fun r2 μ1 h2 => ⟨fun c1 => (f_149_28  μ1 Q (h2.1 c1)), fun c1 => (h2.2 c1)⟩))
-- .. at 35
set_option maxRecDepth 100000 in
theorem w_149_35 (x1 : Int32) (μ : wm_M) (Q : Option Value → wm_M → Prop) (h : (vp_in x1 3 ∧ (((μ.1 15 (x1).toNatClampNeg) = (0 : Int32) → wm_OkI 0 161 [.ref 0, .int (-7 : Int32)] μ (fun r2 μ1 => Q (some (.int r2)) μ1)) ∧ (¬ (μ.1 15 (x1).toNatClampNeg) = (0 : Int32) → wm_Wp 0 149 57 [.ref 0, .int x1] μ Q)))) : wm_Wp 0 149 35 [.ref 0, .int x1] μ Q := f_149_35 x1 μ Q h
-- .. at 57
set_option maxRecDepth 100000 in
theorem w_149_57 (x1 : Int32) (μ : wm_M) (Q : Option Value → wm_M → Prop) (h : ((((μ.1 13 4) + (12 : Int32)) ≤ (120 : Int32) → wm_Wp 0 149 82 [.ref 0, .int x1] μ Q) ∧ (¬ ((μ.1 13 4) + (12 : Int32)) ≤ (120 : Int32) → wm_OkI 0 161 [.ref 0, .int (-8 : Int32)] μ (fun r2 μ1 => Q (some (.int r2)) μ1)))) : wm_Wp 0 149 57 [.ref 0, .int x1] μ Q := f_149_57 x1 μ Q h
-- .. at 82
set_option maxRecDepth 100000 in
theorem w_149_82 (x1 : Int32) (μ : wm_M) (Q : Option Value → wm_M → Prop) (h : wm_OkR 0 163 [.ref 0] μ (fun μ1 => wm_OkV 0 52 [.ref 1, .int (12 : Int32)] μ1 (fun μ2 => (vp_in x1 3 ∧ Q (some (.int ((wm_si μ2 15 (x1).toNatClampNeg (vp_nar .boolean (0 : Int32))).1 13 4))) (wm_si μ2 15 (x1).toNatClampNeg (vp_nar .boolean (0 : Int32))))))) : wm_Wp 0 149 82 [.ref 0, .int x1] μ Q := f_149_82 x1 μ Q (wm_OkR.mono h (fun μ1 h3 => (wm_OkV.mono h3 (fun μ2 h2 => (f_149_91 x1 μ2 Q ⟨h2.1, (f_149_104  (wm_si μ2 15 (x1).toNatClampNeg (vp_nar .boolean (0 : Int32))) Q h2.2)⟩)))))
-- WindBoat.boat(I)I
set_option maxRecDepth 100000 in
theorem v_150 (a1 : Int32) (μ : wm_M) (Q : Option Value → wm_M → Prop) (h : (((μ.1 13 0) = (0 : Int32) → wm_OkI 0 161 [.ref 0, .int (-2 : Int32)] μ (fun r2 μ1 => Q (some (.int r2)) μ1)) ∧ (¬ (μ.1 13 0) = (0 : Int32) → wm_Wp 0 150 20 [.ref 0, .int a1] μ Q))) : wm_Ok 0 150 [.ref 0, .int a1] μ Q := f_150 a1 μ Q h
-- .. at 20
set_option maxRecDepth 100000 in
theorem w_150_20 (x1 : Int32) (μ : wm_M) (Q : Option Value → wm_M → Prop) (h : (((x1).toInt < 0 ∨ 7 < (x1).toInt → wm_Wp 0 150 150 [.ref 0, .null] μ Q) ∧ (((x1).toInt = 0 → wm_Wp 0 150 68 [.ref 0, .null] μ Q) ∧ (((x1).toInt = 1 → wm_Wp 0 150 79 [.ref 0, .null] μ Q) ∧ (((x1).toInt = 2 → wm_Wp 0 150 90 [.ref 0, .null] μ Q) ∧ (((x1).toInt = 3 → wm_Wp 0 150 101 [.ref 0, .null] μ Q) ∧ (((x1).toInt = 4 → wm_Wp 0 150 112 [.ref 0, .null] μ Q) ∧ (((x1).toInt = 5 → wm_Wp 0 150 120 [.ref 0, .null] μ Q) ∧ (((x1).toInt = 6 → wm_Wp 0 150 131 [.ref 0, .null] μ Q) ∧ (((x1).toInt = 7 → wm_Wp 0 150 139 [.ref 0, .null] μ Q) ∧ True)))))))))) : wm_Wp 0 150 20 [.ref 0, .int x1] μ Q := f_150_20 x1 μ Q h
-- .. at 68
set_option maxRecDepth 100000 in
theorem w_150_68 (μ : wm_M) (Q : Option Value → wm_M → Prop) (h : Q (some (.int (μ.1 13 1))) μ) : wm_Wp 0 150 68 [.ref 0, .null] μ Q := f_150_68  μ Q h
-- .. at 79
set_option maxRecDepth 100000 in
theorem w_150_79 (μ : wm_M) (Q : Option Value → wm_M → Prop) (h : Q (some (.int (μ.1 13 2))) μ) : wm_Wp 0 150 79 [.ref 0, .null] μ Q := f_150_79  μ Q h
-- .. at 90
set_option maxRecDepth 100000 in
theorem w_150_90 (μ : wm_M) (Q : Option Value → wm_M → Prop) (h : Q (some (.int (μ.1 13 3))) μ) : wm_Wp 0 150 90 [.ref 0, .null] μ Q := f_150_90  μ Q h
-- .. at 101
set_option maxRecDepth 100000 in
theorem w_150_101 (μ : wm_M) (Q : Option Value → wm_M → Prop) (h : Q (some (.int (μ.1 13 4))) μ) : wm_Wp 0 150 101 [.ref 0, .null] μ Q := f_150_101  μ Q h
-- .. at 112
set_option maxRecDepth 100000 in
theorem w_150_112 (μ : wm_M) (Q : Option Value → wm_M → Prop) (h : wm_OkI 0 49 [.ref 1] μ (fun r2 μ1 => Q (some (.int r2)) μ1)) : wm_Wp 0 150 112 [.ref 0, .null] μ Q := f_150_112  μ Q h
-- .. at 120
set_option maxRecDepth 100000 in
theorem w_150_120 (μ : wm_M) (Q : Option Value → wm_M → Prop) (h : Q (some (.int (μ.1 13 14))) μ) : wm_Wp 0 150 120 [.ref 0, .null] μ Q := f_150_120  μ Q h
-- .. at 131
set_option maxRecDepth 100000 in
theorem w_150_131 (μ : wm_M) (Q : Option Value → wm_M → Prop) (h : wm_OkI 0 48 [.ref 1] μ (fun r2 μ1 => Q (some (.int r2)) μ1)) : wm_Wp 0 150 131 [.ref 0, .null] μ Q := f_150_131  μ Q h
-- .. at 139
set_option maxRecDepth 100000 in
theorem w_150_139 (μ : wm_M) (Q : Option Value → wm_M → Prop) (h : wm_OkI 0 14 [.ref 13] μ (fun r2 μ1 => Q (some (.int r2)) μ1)) : wm_Wp 0 150 139 [.ref 0, .null] μ Q := f_150_139  μ Q h
-- .. at 150
set_option maxRecDepth 100000 in
theorem w_150_150 (μ : wm_M) (Q : Option Value → wm_M → Prop) (h : wm_OkI 0 161 [.ref 0, .int (-7 : Int32)] μ (fun r2 μ1 => Q (some (.int r2)) μ1)) : wm_Wp 0 150 150 [.ref 0, .null] μ Q := f_150_150  μ Q h
-- WindBoat.lost(II)I
set_option maxRecDepth 100000 in
theorem v_151 (a1 : Int32) (a2 : Int32) (μ : wm_M) (Q : Option Value → wm_M → Prop) (h : (((μ.1 13 0) = (0 : Int32) → wm_OkI 0 161 [.ref 0, .int (-2 : Int32)] μ (fun r2 μ1 => Q (some (.int r2)) μ1)) ∧ (¬ (μ.1 13 0) = (0 : Int32) → wm_Wp 0 151 20 [.ref 0, .int a1, .int a2] μ Q))) : wm_Ok 0 151 [.ref 0, .int a1, .int a2] μ Q := f_151 a1 a2 μ Q h
-- .. at 20
set_option maxRecDepth 100000 in
theorem w_151_20 (x1 : Int32) (x2 : Int32) (μ : wm_M) (Q : Option Value → wm_M → Prop) (h : wm_OkI 0 170 [.int x1] μ (fun r2 μ1 => ((r2 = (0 : Int32) → wm_OkI 0 161 [.ref 0, .int (-3 : Int32)] μ1 (fun r4 μ3 => Q (some (.int r4)) μ3)) ∧ (¬ r2 = (0 : Int32) → wm_Wp 0 151 34 [.ref 0, .int x1, .int x2] μ1 Q)))) : wm_Wp 0 151 20 [.ref 0, .int x1, .int x2] μ Q := f_151_20 x1 x2 μ Q (wm_OkI.mono h (fun r2 μ1 h2 => ⟨fun c1 => (f_151_27  μ1 Q (h2.1 c1)), fun c1 => (h2.2 c1)⟩))
-- .. at 34
set_option maxRecDepth 100000 in
theorem w_151_34 (x1 : Int32) (x2 : Int32) (μ : wm_M) (Q : Option Value → wm_M → Prop) (h : wm_OkI 0 178 [.int x2, .int (0 : Int32), .int (4 : Int32)] μ (fun r2 μ1 => ((r2 = (0 : Int32) → wm_OkI 0 161 [.ref 0, .int (-7 : Int32)] μ1 (fun r4 μ3 => Q (some (.int r4)) μ3)) ∧ (¬ r2 = (0 : Int32) → wm_Wp 0 151 50 [.ref 0, .int x1, .int x2] μ1 Q)))) : wm_Wp 0 151 34 [.ref 0, .int x1, .int x2] μ Q := f_151_34 x1 x2 μ Q (wm_OkI.mono h (fun r2 μ1 h2 => ⟨fun c1 => (f_151_43  μ1 Q (h2.1 c1)), fun c1 => (h2.2 c1)⟩))
-- .. at 50
set_option maxRecDepth 100000 in
theorem w_151_50 (x1 : Int32) (x2 : Int32) (μ : wm_M) (Q : Option Value → wm_M → Prop) (h : wm_OkV 0 17 [.ref 62] μ (fun μ1 => wm_OkI 0 49 [.ref 1] μ1 (fun r3 μ2 => wm_OkV 0 55 [.ref 81, .int x1, .int r3] μ2 (fun μ4 => (((∀ q ∈ (#[(3, 27), (4, 37)] : Array (Int × Int)).toList, ¬ (x2).toInt = q.1) → wm_Wp 0 151 121 [.ref 0, .null, .int x2] μ4 Q) ∧ (((x2).toInt = 3 → wm_Wp 0 151 100 [.ref 0, .null, .null] μ4 Q) ∧ (((x2).toInt = 4 → wm_Wp 0 151 110 [.ref 0, .null, .null] μ4 Q) ∧ True))))))) : wm_Wp 0 151 50 [.ref 0, .int x1, .int x2] μ Q := f_151_50 x1 x2 μ Q (wm_OkV.mono h (fun μ1 h3 => (f_151_57 x1 x2 μ1 Q (wm_OkI.mono h3 (fun r3 μ2 h2 => (wm_OkV.mono h2 (fun μ4 h1 => (f_151_72 x2 μ4 Q h1))))))))
-- .. at 100
set_option maxRecDepth 100000 in
theorem w_151_100 (μ : wm_M) (Q : Option Value → wm_M → Prop) (h : (vp_in (0 : Int32) 8 ∧ Q (some (.int (μ.1 84 ((0 : Int32)).toNatClampNeg))) μ)) : wm_Wp 0 151 100 [.ref 0, .null, .null] μ Q := f_151_100  μ Q h
-- .. at 110
set_option maxRecDepth 100000 in
theorem w_151_110 (μ : wm_M) (Q : Option Value → wm_M → Prop) (h : (vp_in (7 : Int32) 8 ∧ Q (some (.int (μ.1 84 ((7 : Int32)).toNatClampNeg))) μ)) : wm_Wp 0 151 110 [.ref 0, .null, .null] μ Q := f_151_110  μ Q h
-- .. at 121
set_option maxRecDepth 100000 in
theorem w_151_121 (x2 : Int32) (μ : wm_M) (Q : Option Value → wm_M → Prop) (h : wm_OkI 0 58 [.ref 81, .int ((1 : Int32) <<< (x2 &&& 31))] μ (fun r2 μ1 => Q (some (.int r2)) μ1)) : wm_Wp 0 151 121 [.ref 0, .null, .int x2] μ Q := f_151_121 x2 μ Q h
-- WindBoat.count(I)I
set_option maxRecDepth 100000 in
theorem v_152 (a1 : Int32) (μ : wm_M) (Q : Option Value → wm_M → Prop) (h : (((a1).toInt < 0 ∨ 11 < (a1).toInt → wm_Wp 0 152 196 [.ref 0, .null] μ Q) ∧ (((a1).toInt = 0 → wm_Wp 0 152 64 [.ref 0, .null] μ Q) ∧ (((a1).toInt = 1 → wm_Wp 0 152 75 [.ref 0, .null] μ Q) ∧ (((a1).toInt = 2 → wm_Wp 0 152 86 [.ref 0, .null] μ Q) ∧ (((a1).toInt = 3 → wm_Wp 0 152 97 [.ref 0, .null] μ Q) ∧ (((a1).toInt = 4 → wm_Wp 0 152 108 [.ref 0, .null] μ Q) ∧ (((a1).toInt = 5 → wm_Wp 0 152 119 [.ref 0, .null] μ Q) ∧ (((a1).toInt = 6 → wm_Wp 0 152 130 [.ref 0, .null] μ Q) ∧ (((a1).toInt = 7 → wm_Wp 0 152 138 [.ref 0, .null] μ Q) ∧ (((a1).toInt = 8 → wm_Wp 0 152 149 [.ref 0, .null] μ Q) ∧ (((a1).toInt = 9 → wm_Wp 0 152 160 [.ref 0, .null] μ Q) ∧ (((a1).toInt = 10 → wm_Wp 0 152 171 [.ref 0, .null] μ Q) ∧ (((a1).toInt = 11 → wm_Wp 0 152 182 [.ref 0, .null] μ Q) ∧ True)))))))))))))) : wm_Ok 0 152 [.ref 0, .int a1] μ Q := f_152 a1 μ Q h
-- .. at 64
set_option maxRecDepth 100000 in
theorem w_152_64 (μ : wm_M) (Q : Option Value → wm_M → Prop) (h : wm_OkI 0 79 [.ref 2] μ (fun r2 μ1 => Q (some (.int r2)) μ1)) : wm_Wp 0 152 64 [.ref 0, .null] μ Q := f_152_64  μ Q h
-- .. at 75
set_option maxRecDepth 100000 in
theorem w_152_75 (μ : wm_M) (Q : Option Value → wm_M → Prop) (h : wm_OkI 0 77 [.ref 2] μ (fun r2 μ1 => Q (some (.int r2)) μ1)) : wm_Wp 0 152 75 [.ref 0, .null] μ Q := f_152_75  μ Q h
-- .. at 86
set_option maxRecDepth 100000 in
theorem w_152_86 (μ : wm_M) (Q : Option Value → wm_M → Prop) (h : Q (some (.int (μ.1 13 10))) μ) : wm_Wp 0 152 86 [.ref 0, .null] μ Q := f_152_86  μ Q h
-- .. at 97
set_option maxRecDepth 100000 in
theorem w_152_97 (μ : wm_M) (Q : Option Value → wm_M → Prop) (h : wm_OkI 0 7 [.ref 13] μ (fun r2 μ1 => Q (some (.int r2)) μ1)) : wm_Wp 0 152 97 [.ref 0, .null] μ Q := f_152_97  μ Q h
-- .. at 108
set_option maxRecDepth 100000 in
theorem w_152_108 (μ : wm_M) (Q : Option Value → wm_M → Prop) (h : Q (some (.int (μ.1 13 13))) μ) : wm_Wp 0 152 108 [.ref 0, .null] μ Q := f_152_108  μ Q h
-- .. at 119
set_option maxRecDepth 100000 in
theorem w_152_119 (μ : wm_M) (Q : Option Value → wm_M → Prop) (h : Q (some (.int (μ.1 18 6))) μ) : wm_Wp 0 152 119 [.ref 0, .null] μ Q := f_152_119  μ Q h
-- .. at 130
set_option maxRecDepth 100000 in
theorem w_152_130 (μ : wm_M) (Q : Option Value → wm_M → Prop) (h : Q (some (.int (μ.1 59 1))) μ) : wm_Wp 0 152 130 [.ref 0, .null] μ Q := f_152_130  μ Q h
-- .. at 138
set_option maxRecDepth 100000 in
theorem w_152_138 (μ : wm_M) (Q : Option Value → wm_M → Prop) (h : wm_OkI 0 86 [.ref 7] μ (fun r2 μ1 => Q (some (.int r2)) μ1)) : wm_Wp 0 152 138 [.ref 0, .null] μ Q := f_152_138  μ Q h
-- .. at 149
set_option maxRecDepth 100000 in
theorem w_152_149 (μ : wm_M) (Q : Option Value → wm_M → Prop) (h : wm_OkI 0 78 [.ref 2] μ (fun r2 μ1 => Q (some (.int r2)) μ1)) : wm_Wp 0 152 149 [.ref 0, .null] μ Q := f_152_149  μ Q h
-- .. at 160
set_option maxRecDepth 100000 in
theorem w_152_160 (μ : wm_M) (Q : Option Value → wm_M → Prop) (h : Q (some (.int (μ.1 13 5))) μ) : wm_Wp 0 152 160 [.ref 0, .null] μ Q := f_152_160  μ Q h
-- .. at 171
set_option maxRecDepth 100000 in
theorem w_152_171 (μ : wm_M) (Q : Option Value → wm_M → Prop) (h : Q (some (.int (μ.1 2 4))) μ) : wm_Wp 0 152 171 [.ref 0, .null] μ Q := f_152_171  μ Q h
-- .. at 182
set_option maxRecDepth 100000 in
theorem w_152_182 (μ : wm_M) (Q : Option Value → wm_M → Prop) (h : wm_OkI 0 177 [.int (μ.1 13 0)] μ (fun r2 μ1 => Q (some (.int r2)) μ1)) : wm_Wp 0 152 182 [.ref 0, .null] μ Q := f_152_182  μ Q h
-- .. at 196
set_option maxRecDepth 100000 in
theorem w_152_196 (μ : wm_M) (Q : Option Value → wm_M → Prop) (h : wm_OkI 0 162 [.ref 0, .int (-7 : Int32)] μ (fun r2 μ1 => Q (some (.int r2)) μ1)) : wm_Wp 0 152 196 [.ref 0, .null] μ Q := f_152_196  μ Q h
-- WindBoat.image()I
set_option maxRecDepth 100000 in
theorem v_153 (μ : wm_M) (Q : Option Value → wm_M → Prop) (h : wm_OkV 0 46 [.ref 30, .ref 1] μ (fun μ1 => (((1 : Int32) = 0 ∨ (1 : Int32) = 1) ∧ Q (some (.int ((wm_si μ1 0 2 (1 : Int32)).1 13 4))) (wm_si μ1 0 2 (1 : Int32))))) : wm_Ok 0 153 [.ref 0] μ Q := f_153  μ Q (wm_OkV.mono h (fun μ1 h2 => (f_153_11  μ1 Q ⟨h2.1, (f_153_16  (wm_si μ1 0 2 (1 : Int32)) Q h2.2)⟩)))
-- WindBoat.back()I
set_option maxRecDepth 100000 in
theorem v_154 (μ : wm_M) (Q : Option Value → wm_M → Prop) (h : (((μ.1 0 2) = (0 : Int32) → wm_OkI 0 161 [.ref 0, .int (-2 : Int32)] μ (fun r2 μ1 => Q (some (.int r2)) μ1)) ∧ (¬ (μ.1 0 2) = (0 : Int32) → wm_Wp 0 154 14 [.ref 0] μ Q))) : wm_Ok 0 154 [.ref 0] μ Q := f_154  μ Q h
-- .. at 14
set_option maxRecDepth 100000 in
theorem w_154_14 (μ : wm_M) (Q : Option Value → wm_M → Prop) (h : wm_OkR 0 163 [.ref 0] μ (fun μ1 => wm_OkV 0 46 [.ref 1, .ref 30] μ1 (fun μ2 => Q (some (.int (μ2.1 13 4))) μ2))) : wm_Wp 0 154 14 [.ref 0] μ Q := f_154_14  μ Q (wm_OkR.mono h (fun μ1 h2 => (wm_OkV.mono h2 (fun μ2 h1 => (f_154_25  μ2 Q h1)))))
-- WindBoat.lay(I)I
set_option maxRecDepth 100000 in
theorem v_155 (a1 : Int32) (μ : wm_M) (Q : Option Value → wm_M → Prop) (h : (((0 : Int32) ≤ a1 → wm_Wp 0 155 11 [.ref 0, .int a1] μ Q) ∧ (¬ (0 : Int32) ≤ a1 → wm_OkI 0 161 [.ref 0, .int (-4 : Int32)] μ (fun r2 μ1 => Q (some (.int r2)) μ1)))) : wm_Ok 0 155 [.ref 0, .int a1] μ Q := f_155 a1 μ Q h
-- .. at 11
set_option maxRecDepth 100000 in
theorem w_155_11 (x1 : Int32) (μ : wm_M) (Q : Option Value → wm_M → Prop) (h : ((x1 ≤ (12 : Int32) → wm_Wp 0 155 24 [.ref 0, .int x1] μ Q) ∧ (¬ x1 ≤ (12 : Int32) → wm_OkI 0 161 [.ref 0, .int (-7 : Int32)] μ (fun r2 μ1 => Q (some (.int r2)) μ1)))) : wm_Wp 0 155 11 [.ref 0, .int x1] μ Q := f_155_11 x1 μ Q h
-- .. at 24
set_option maxRecDepth 100000 in
theorem w_155_24 (x1 : Int32) (μ : wm_M) (Q : Option Value → wm_M → Prop) (h : wm_OkV 0 343 [.ref 85, .int (0 : Int32)] μ (fun μ1 => Q (some (.int x1)) (wm_si μ1 0 9 x1))) : wm_Wp 0 155 24 [.ref 0, .int x1] μ Q := f_155_24 x1 μ Q (wm_OkV.mono h (fun μ1 h1 => (f_155_32 x1 μ1 Q (f_155_37 x1 (wm_si μ1 0 9 x1) Q h1))))
-- WindBoat.set(II)I
set_option maxRecDepth 100000 in
theorem v_156 (a1 : Int32) (a2 : Int32) (μ : wm_M) (Q : Option Value → wm_M → Prop) (h : (((μ.1 0 9) = (-1 : Int32) → wm_OkI 0 162 [.ref 0, .int (-2 : Int32)] μ (fun r2 μ1 => Q (some (.int r2)) μ1)) ∧ (¬ (μ.1 0 9) = (-1 : Int32) → wm_Wp 0 156 15 [.ref 0, .int a1, .int a2] μ Q))) : wm_Ok 0 156 [.ref 0, .int a1, .int a2] μ Q := f_156 a1 a2 μ Q h
-- .. at 15
set_option maxRecDepth 100000 in
theorem w_156_15 (x1 : Int32) (x2 : Int32) (μ : wm_M) (Q : Option Value → wm_M → Prop) (h : wm_OkI 0 178 [.int x1, .int (0 : Int32), .int ((μ.1 0 9) - (1 : Int32))] μ (fun r2 μ1 => ((r2 = (0 : Int32) → wm_OkI 0 162 [.ref 0, .int (-3 : Int32)] μ1 (fun r4 μ3 => Q (some (.int r4)) μ3)) ∧ (¬ r2 = (0 : Int32) → wm_Wp 0 156 36 [.ref 0, .int x1, .int x2] μ1 Q)))) : wm_Wp 0 156 15 [.ref 0, .int x1, .int x2] μ Q := f_156_15 x1 x2 μ Q (wm_OkI.mono h (fun r2 μ1 h2 => ⟨fun c1 => (f_156_29  μ1 Q (h2.1 c1)), fun c1 => (h2.2 c1)⟩))
-- .. at 36
set_option maxRecDepth 100000 in
theorem w_156_36 (x1 : Int32) (x2 : Int32) (μ : wm_M) (Q : Option Value → wm_M → Prop) (h : wm_OkI 0 179 [.ref 85, .int x1, .int x2] μ (fun r2 μ1 => Q (some (.int r2)) μ1)) : wm_Wp 0 156 36 [.ref 0, .int x1, .int x2] μ Q := f_156_36 x1 x2 μ Q h
-- WindBoat.tear()I
set_option maxRecDepth 100000 in
theorem v_157 (μ : wm_M) (Q : Option Value → wm_M → Prop) (h : (((μ.1 0 9) = (-1 : Int32) → wm_Wp 0 157 12 [.ref 0, .null] μ Q) ∧ (¬ (μ.1 0 9) = (-1 : Int32) → wm_OkI 0 177 [.int (1 : Int32)] μ (fun r2 μ1 => Q (some (.int r2)) (wm_si μ1 0 9 (-1 : Int32)))))) : wm_Ok 0 157 [.ref 0] μ Q := f_157  μ Q ⟨fun c2 => (h.1 c2), fun c2 => (wm_OkI.mono (h.2 c2) (fun r2 μ1 h1 => (f_157_17 r2 μ1 Q (f_157_22 r2 (wm_si μ1 0 9 (-1 : Int32)) Q h1))))⟩
-- .. at 12
set_option maxRecDepth 100000 in
theorem w_157_12 (μ : wm_M) (Q : Option Value → wm_M → Prop) (h : wm_OkI 0 177 [.int (0 : Int32)] μ (fun r2 μ1 => Q (some (.int r2)) (wm_si μ1 0 9 (-1 : Int32)))) : wm_Wp 0 157 12 [.ref 0, .null] μ Q := f_157_12  μ Q (wm_OkI.mono h (fun r2 μ1 h1 => (f_157_17 r2 μ1 Q (f_157_22 r2 (wm_si μ1 0 9 (-1 : Int32)) Q h1))))
-- WindBoat.row(I)I
set_option maxRecDepth 100000 in
theorem v_158 (a1 : Int32) (μ : wm_M) (Q : Option Value → wm_M → Prop) (h : (((μ.1 0 9) = (-1 : Int32) → wm_OkI 0 162 [.ref 0, .int (-2 : Int32)] μ (fun r2 μ1 => Q (some (.int r2)) μ1)) ∧ (¬ (μ.1 0 9) = (-1 : Int32) → wm_Wp 0 158 15 [.ref 0, .int a1] μ Q))) : wm_Ok 0 158 [.ref 0, .int a1] μ Q := f_158 a1 μ Q h
-- .. at 15
set_option maxRecDepth 100000 in
theorem w_158_15 (x1 : Int32) (μ : wm_M) (Q : Option Value → wm_M → Prop) (h : wm_OkI 0 178 [.int x1, .int (0 : Int32), .int ((μ.1 0 9) - (1 : Int32))] μ (fun r2 μ1 => ((r2 = (0 : Int32) → wm_OkI 0 162 [.ref 0, .int (-3 : Int32)] μ1 (fun r4 μ3 => Q (some (.int r4)) μ3)) ∧ (¬ r2 = (0 : Int32) → wm_Wp 0 158 36 [.ref 0, .int x1] μ1 Q)))) : wm_Wp 0 158 15 [.ref 0, .int x1] μ Q := f_158_15 x1 μ Q (wm_OkI.mono h (fun r2 μ1 h2 => ⟨fun c1 => (f_158_29  μ1 Q (h2.1 c1)), fun c1 => (h2.2 c1)⟩))
-- .. at 36
set_option maxRecDepth 100000 in
theorem w_158_36 (x1 : Int32) (μ : wm_M) (Q : Option Value → wm_M → Prop) (h : (vp_in x1 12 ∧ Q (some (.int (μ.1 85 (x1).toNatClampNeg))) μ)) : wm_Wp 0 158 36 [.ref 0, .int x1] μ Q := f_158_36 x1 μ Q h
-- WindBoat.copy(III)I
set_option maxRecDepth 100000 in
theorem v_159 (a1 : Int32) (a2 : Int32) (a3 : Int32) (μ : wm_M) (Q : Option Value → wm_M → Prop) (h : (((μ.1 0 9) = (-1 : Int32) → wm_OkI 0 161 [.ref 0, .int (-2 : Int32)] μ (fun r2 μ1 => Q (some (.int r2)) μ1)) ∧ (¬ (μ.1 0 9) = (-1 : Int32) → wm_Wp 0 159 15 [.ref 0, .int a1, .int a2, .int a3] μ Q))) : wm_Ok 0 159 [.ref 0, .int a1, .int a2, .int a3] μ Q := f_159 a1 a2 a3 μ Q h
-- .. at 15
set_option maxRecDepth 100000 in
theorem w_159_15 (x1 : Int32) (x2 : Int32) (x3 : Int32) (μ : wm_M) (Q : Option Value → wm_M → Prop) (h : (((0 : Int32) ≤ x3 → wm_Wp 0 159 26 [.ref 0, .int x1, .int x2, .int x3] μ Q) ∧ (¬ (0 : Int32) ≤ x3 → wm_OkI 0 161 [.ref 0, .int (-4 : Int32)] μ (fun r2 μ1 => Q (some (.int r2)) μ1)))) : wm_Wp 0 159 15 [.ref 0, .int x1, .int x2, .int x3] μ Q := f_159_15 x1 x2 x3 μ Q h
-- .. at 26
set_option maxRecDepth 100000 in
theorem w_159_26 (x1 : Int32) (x2 : Int32) (x3 : Int32) (μ : wm_M) (Q : Option Value → wm_M → Prop) (h : (((μ.1 0 9) < x3 → wm_Wp 0 159 62 [.ref 0, .null, .null, .null] μ Q) ∧ (¬ (μ.1 0 9) < x3 → wm_OkI 0 178 [.int x1, .int (0 : Int32), .int ((μ.1 0 9) - x3)] μ (fun r2 μ1 => ((r2 = (0 : Int32) → wm_Wp 0 159 62 [.ref 0, .null, .null, .null] μ1 Q) ∧ (¬ r2 = (0 : Int32) → wm_OkI 0 178 [.int x2, .int (0 : Int32), .int ((μ1.1 0 9) - x3)] μ1 (fun r4 μ3 => ((r4 = (0 : Int32) → wm_Wp 0 159 62 [.ref 0, .null, .null, .null] μ3 Q) ∧ (¬ r4 = (0 : Int32) → wm_Wp 0 159 69 [.ref 0, .int x1, .int x2, .int x3] μ3 Q))))))))) : wm_Wp 0 159 26 [.ref 0, .int x1, .int x2, .int x3] μ Q := f_159_26 x1 x2 x3 μ Q ⟨fun c3 => (h.1 c3), fun c3 => (wm_OkI.mono (h.2 c3) (fun r2 μ1 h2 => ⟨fun c1 => (h2.1 c1), fun c1 => (f_159_48 x1 x2 x3 μ1 Q (h2.2 c1))⟩))⟩
-- .. at 62
set_option maxRecDepth 100000 in
theorem w_159_62 (μ : wm_M) (Q : Option Value → wm_M → Prop) (h : wm_OkI 0 161 [.ref 0, .int (-6 : Int32)] μ (fun r2 μ1 => Q (some (.int r2)) μ1)) : wm_Wp 0 159 62 [.ref 0, .null, .null, .null] μ Q := f_159_62  μ Q h
-- .. at 69
set_option maxRecDepth 100000 in
theorem w_159_69 (x1 : Int32) (x2 : Int32) (x3 : Int32) (μ : wm_M) (Q : Option Value → wm_M → Prop) (h : (¬ x1 < 0 ∧ ¬ x2 < 0 ∧ ¬ x3 < 0 ∧ (x1).toNatClampNeg + (x3).toNatClampNeg ≤ 12 ∧ (x2).toNatClampNeg + (x3).toNatClampNeg ≤ 12 ∧ ∀ μ1, μ1 = wm_sr μ 85 (va_cpy (μ.1 85) (μ.1 85) (x1).toNatClampNeg (x2).toNatClampNeg (x3).toNatClampNeg) → Q (some (.int x3)) μ1)) : wm_Wp 0 159 69 [.ref 0, .int x1, .int x2, .int x3] μ Q := f_159_69 x1 x2 x3 μ Q ⟨h.1, h.2.1, h.2.2.1, h.2.2.2.1, h.2.2.2.2.1, fun μ1 e1 => (f_159_83 x3 μ1 Q (h.2.2.2.2.2 μ1 e1))⟩
-- WindBoat.status(I)I
set_option maxRecDepth 100000 in
theorem v_160 (a1 : Int32) (μ : wm_M) (Q : Option Value → wm_M → Prop) (h : wm_OkI 0 178 [.int a1, .int (-8 : Int32), .int (-2 : Int32)] μ (fun r2 μ1 => ((r2 = (0 : Int32) → wm_Wp 0 160 21 [.ref 0, .null] μ1 Q) ∧ (¬ r2 = (0 : Int32) → (vp_in (-a1) 9 ∧ Q (some (.int (μ1.1 88 ((-a1)).toNatClampNeg))) μ1))))) : wm_Ok 0 160 [.ref 0, .int a1] μ Q := f_160 a1 μ Q (wm_OkI.mono h (fun r2 μ1 h2 => ⟨fun c1 => (h2.1 c1), fun c1 => (f_160_11 a1 μ1 Q (h2.2 c1))⟩))
-- .. at 21
set_option maxRecDepth 100000 in
theorem w_160_21 (μ : wm_M) (Q : Option Value → wm_M → Prop) (h : wm_OkI 0 161 [.ref 0, .int (-7 : Int32)] μ (fun r2 μ1 => Q (some (.int r2)) μ1)) : wm_Wp 0 160 21 [.ref 0, .null] μ Q := f_160_21  μ Q h
-- WindBoat.refuse(I)I
set_option maxRecDepth 100000 in
theorem v_161 (a1 : Int32) (μ : wm_M) (Q : Option Value → wm_M → Prop) (h : (vp_in (-a1) 9 ∧ (vp_in (-a1) 9 ∧ Q (some (.int a1)) (wm_si μ 88 ((-a1)).toNatClampNeg ((μ.1 88 ((-a1)).toNatClampNeg) + (1 : Int32)))))) : wm_Ok 0 161 [.ref 0, .int a1] μ Q := f_161 a1 μ Q ⟨h.1, ⟨h.2.1, (f_161_11 a1 (wm_si μ 88 ((-a1)).toNatClampNeg ((μ.1 88 ((-a1)).toNatClampNeg) + (1 : Int32))) Q h.2.2)⟩⟩
-- WindBoat.refuseBy0(I)I
set_option maxRecDepth 100000 in
theorem v_162 (a1 : Int32) (μ : wm_M) (Q : Option Value → wm_M → Prop) (h : wm_OkI 0 161 [.ref 0, .int a1] μ (fun r2 μ1 => Q (some (.int (0 : Int32))) μ1)) : wm_Ok 0 162 [.ref 0, .int a1] μ Q := f_162 a1 μ Q (wm_OkI.mono h (fun r2 μ1 h1 => (f_162_6  μ1 Q h1)))
-- WindBoat.changing()LWindBoat$Log;
set_option maxRecDepth 100000 in
theorem v_163 (μ : wm_M) (Q : Option Value → wm_M → Prop) (h : wm_OkV 0 16 [.ref 62] μ (fun μ1 => wm_OkV 0 27 [.ref 75] μ1 (fun μ2 => Q (some (.ref 1)) μ2))) : wm_Ok 0 163 [.ref 0] μ Q := f_163  μ Q (wm_OkV.mono h (fun μ1 h2 => (f_163_7  μ1 Q (wm_OkV.mono h2 (fun μ2 h1 => (f_163_14  μ2 Q h1))))))
-- WindBoat.stepTicksBehind(II)I
set_option maxRecDepth 100000 in
theorem v_164 (a1 : Int32) (a2 : Int32) (μ : wm_M) (Q : Option Value → wm_M → Prop) (h : wm_OkI 0 182 [.int (μ.1 13 1), .int a2] μ (fun r2 μ1 => ((r2 = (-1 : Int32) → wm_Wp 0 164 51 [.null, .null, .null, .null, .null, .null, .null] μ1 Q) ∧ (¬ r2 = (-1 : Int32) → (((120 : Int32) < ((μ.1 13 4) + a1) → wm_Wp 0 164 51 [.null, .null, .null, .null, .null, .null, .null] μ1 Q) ∧ (¬ (120 : Int32) < ((μ.1 13 4) + a1) → wm_OkI 0 51 [.ref 1, .int ((μ.1 13 4) + a1)] μ1 (fun r4 μ3 => ((r4 = (0 : Int32) → wm_Wp 0 164 53 [.ref 0, .null, .int a2, .ref 13, .int ((μ.1 13 4) + a1), .int r2, .null] μ3 Q) ∧ (¬ r4 = (0 : Int32) → wm_Wp 0 164 51 [.null, .null, .null, .null, .null, .null, .null] μ3 Q))))))))) : wm_Ok 0 164 [.ref 0, .int a1, .int a2] μ Q := f_164 a1 a2 μ Q (wm_OkI.mono h (fun r2 μ1 h1 => (f_164_26 a2 ((μ.1 13 4) + a1) r2 μ1 Q h1)))
-- .. at 51
set_option maxRecDepth 100000 in
theorem w_164_51 (μ : wm_M) (Q : Option Value → wm_M → Prop) (h : Q (some (.int (0 : Int32))) μ) : wm_Wp 0 164 51 [.null, .null, .null, .null, .null, .null, .null] μ Q := f_164_51  μ Q h
-- .. at 53
set_option maxRecDepth 100000 in
theorem w_164_53 (x2 : Int32) (x4 : Int32) (x5 : Int32) (μ : wm_M) (Q : Option Value → wm_M → Prop) (h : wm_OkI 0 180 [.int x4] μ (fun r2 μ1 => wm_OkV 0 18 [.ref 62, .int (μ1.1 13 1), .int r2, .int (μ1.1 13 3)] μ1 (fun μ3 => wm_OkV 0 18 [.ref 62, .int x5, .int r2, .int (μ3.1 13 3)] μ3 (fun μ4 => wm_OkV 0 19 [.ref 62, .int (6 : Int32), .int (1 : Int32)] μ4 (fun μ5 => wm_OkI 0 22 [.ref 62, .int (μ5.1 13 1), .int x2, .int (μ5.1 13 3), .int r2] μ5 (fun r7 μ6 => Q (some (.int r7)) μ6)))))) : wm_Wp 0 164 53 [.ref 0, .null, .int x2, .ref 13, .int x4, .int x5, .null] μ Q := f_164_53 x2 x4 x5 μ Q (wm_OkI.mono h (fun r2 μ1 h4 => (f_164_60 x2 x5 r2 μ1 Q (wm_OkV.mono h4 (fun μ3 h3 => (f_164_77 x2 x5 r2 μ3 Q (wm_OkV.mono h3 (fun μ4 h2 => (f_164_92 x2 r2 μ4 Q (wm_OkV.mono h2 (fun μ5 h1 => (f_164_102 x2 r2 μ5 Q h1))))))))))))
-- WindBoat.isSail(I)Z
set_option maxRecDepth 100000 in
theorem v_165 (a1 : Int32) (μ : wm_M) (Q : Option Value → wm_M → Prop) (h : wm_OkI 0 178 [.int a1, .int (0 : Int32), .int ((μ.1 13 10) - (1 : Int32))] μ (fun r2 μ1 => ((r2 = 0 ∨ r2 = 1) ∧ Q (some (.int r2)) μ1))) : wm_Ok 0 165 [.ref 0, .int a1] μ Q := f_165 a1 μ Q h
-- WindBoat.isAsked(III)Z
set_option maxRecDepth 100000 in
theorem v_166 (a1 : Int32) (a2 : Int32) (a3 : Int32) (μ : wm_M) (Q : Option Value → wm_M → Prop) (h : wm_OkI 0 178 [.int a1, .int (0 : Int32), .int (29 : Int32)] μ (fun r2 μ1 => ((r2 = (0 : Int32) → wm_Wp 0 166 42 [.null, .null, .null, .null] μ1 Q) ∧ (¬ r2 = (0 : Int32) → (¬ (10 : Int32) = 0 ∧ wm_OkI 0 165 [.ref 0, .int (a1 - a1 / (10 : Int32) * (10 : Int32))] μ1 (fun r4 μ3 => ((r4 = (0 : Int32) → wm_Wp 0 166 42 [.null, .null, .null, .null] μ3 Q) ∧ (¬ r4 = (0 : Int32) → wm_OkI 0 167 [.int a2] μ3 (fun r6 μ5 => ((r6 = (0 : Int32) → wm_Wp 0 166 42 [.null, .null, .null, .null] μ5 Q) ∧ (¬ r6 = (0 : Int32) → wm_OkI 0 178 [.int a3, .int (0 : Int32), .int (11 : Int32)] μ5 (fun r8 μ7 => ((r8 = (0 : Int32) → wm_Wp 0 166 42 [.null, .null, .null, .null] μ7 Q) ∧ (¬ r8 = (0 : Int32) → (((1 : Int32) = 0 ∨ (1 : Int32) = 1) ∧ Q (some (.int (1 : Int32))) μ7))))))))))))))) : wm_Ok 0 166 [.ref 0, .int a1, .int a2, .int a3] μ Q := f_166 a1 a2 a3 μ Q (wm_OkI.mono h (fun r2 μ1 h9 => ⟨fun c8 => (h9.1 c8), fun c8 => (f_166_10 a1 a2 a3 μ1 Q ⟨(h9.2 c8).1, (wm_OkI.mono (h9.2 c8).2 (fun r4 μ3 h6 => ⟨fun c5 => (h6.1 c5), fun c5 => (f_166_21 a2 a3 μ3 Q (wm_OkI.mono (h6.2 c5) (fun r6 μ5 h4 => ⟨fun c3 => (h4.1 c3), fun c3 => (f_166_28 a3 μ5 Q (wm_OkI.mono (h4.2 c3) (fun r8 μ7 h2 => ⟨fun c1 => (h2.1 c1), fun c1 => (f_166_38  μ7 Q (h2.2 c1))⟩)))⟩)))⟩))⟩)⟩))
-- .. at 42
set_option maxRecDepth 100000 in
theorem w_166_42 (μ : wm_M) (Q : Option Value → wm_M → Prop) (h : (((0 : Int32) = 0 ∨ (0 : Int32) = 1) ∧ Q (some (.int (0 : Int32))) μ)) : wm_Wp 0 166 42 [.null, .null, .null, .null] μ Q := f_166_42  μ Q h
