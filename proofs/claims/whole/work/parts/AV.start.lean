/-! The law's start: what stands before it, both constructors, its loop. -/
def cy_Wd : List (Nat × Jvm.Cond) := [(751, .laysStatic "WindBoat$Boat" "HOLDS" "[I"), (760, .laysStatic "WindBoat$Boat" "UNDER" "[I"), (809, .stringRef "WindBoat$Tape" 67 "shut gust tired cell row hour sail shelter hands if or and not "), (819, .laysStatic "java/lang/String" "COMPACT_STRINGS" "Z"), (835, .laysStatic "jdk/internal/util/Preconditions" "SIOOBE_FORMATTER" "Ljava/util/function/BiFunction;"), (869, .stringRef "WindBoat$Tape" 59 "()+-*/%=<>"), (1010, .laysStatic "WindBoat$Rules" "WITHOUT_RULE" "[I")]
set_option maxRecDepth 100000 in
theorem cy_all : wm_scan (fun w q => decide (w = q)) lw_tbl 0 cy_Wd = true := by decide +kernel
theorem cy_w {args : Array Value} {s : State} (hts : ∀ w ∈ lw_tbl, w.before args s = true) (k : Nat) {i : Nat} {w : Jvm.Cond} (h : cy_Wd[k]? = some (i, w)) : w.before args s = true := by
  obtain ⟨w1, h1, -, -, h4⟩ := wm_scan_ok _ _ _ _ cy_all _ (List.mem_of_getElem? h)
  simp only [decide_eq_true_eq] at h4
  rw [← h4]
  exact hts w1 h1
theorem lx_T {args : Array Value} {s : State} (hts : ∀ w ∈ lw_tbl, w.before args s = true) : ∀ w ∈ wm_T, w.before args s = true := fun w hw => hts w (List.mem_filter.mp hw).1
theorem lx_N {args : Array Value} {s : State} (hts : ∀ w ∈ lw_tbl, w.before args s = true) : cx_N s := by
  intro q hq
  obtain ⟨w1, h1, -, -, h4⟩ := wm_scan_ok _ _ _ _ wm_nl_all _ hq
  simp only [decide_eq_true_eq] at h4
  refine va_Nw.of rfl (A := args) ?_
  rw [← h4]
  exact hts w1 h1
abbrev lx_f : List Jvm.Cond := flatC (Jvm.Cond.and given_1 narrow_1)
abbrev tH : Term := .static "WindBoat$Boat" "HOLDS" "[I"
abbrev tU : Term := .static "WindBoat$Boat" "UNDER" "[I"
abbrev tW : Term := .static "WindBoat$Rules" "WITHOUT_RULE" "[I"
def lx_tm (i : Nat) : Term := match i with
  | 0 => .string "WindBoat$Tape" 67
  | _ => .string "WindBoat$Tape" 59
theorem lx_row {args : Array Value} {s : State} {A : Nat → Prop} {C n : String} {N : Nat} {vs : List Int32} (hN : N < 2 ^ 31) (hs : ∀ w ∈ lx_f, w.before args s = true) (hl : (Cond.laysStatic C n "[I").before args s = true) (hini : (Cond.initialized C).before args s = true) (h1 : Cond.arrayOf (.static C n "[I") .int ∈ lx_f) (h2 : Cond.eq (.length (.static C n "[I")) (.int (Int32.ofNat N)) ∈ lx_f) (h3 : ∀ j : Nat, j < N → Cond.eq (.elem (.static C n "[I") (.int (Int32.ofNat j))) (.int (vs.getD j 0)) ∈ lx_f) (hA : ∀ a : Nat, a < s.heap.size → ¬ A a) : ∃ t : Nat, va_Z C n "[I" (.ref t) A s s.heap ∧ va_T .int t N (fun j => .int (vs.getD j 0)) A s s.heap := by
  obtain ⟨t, ht, hT⟩ := va_Tof (f := fun j => .int (vs.getD j 0)) (A := A) hN (hs _ h1) (va_eqt (hs _ h2)) (fun j hj => va_eqt (hs _ (h3 j hj))) hA
  exact ⟨t, va_Zof hl hini ht hA, hT⟩
set_option maxRecDepth 100000 in
theorem lx_m1 : Cond.arrayOf tH .int ∈ lx_f ∧ Cond.eq (.length tH) (.int (Int32.ofNat 5)) ∈ lx_f ∧ ∀ j : Nat, j < 5 → Cond.eq (.elem tH (.int (Int32.ofNat j))) (.int (([24, 28, 39, 20, 16] : List Int32).getD j 0)) ∈ lx_f := by decide +kernel
set_option maxRecDepth 100000 in
theorem lx_m2 : Cond.arrayOf tU .int ∈ lx_f ∧ Cond.eq (.length tU) (.int (Int32.ofNat 5)) ∈ lx_f ∧ ∀ j : Nat, j < 5 → Cond.eq (.elem tU (.int (Int32.ofNat j))) (.int (([-1, 0, 1, 0, 3] : List Int32).getD j 0)) ∈ lx_f := by decide +kernel
set_option maxRecDepth 100000 in
theorem lx_m3 : Cond.arrayOf tW .int ∈ lx_f ∧ Cond.eq (.length tW) (.int (Int32.ofNat 3)) ∈ lx_f ∧ ∀ j : Nat, j < 3 → Cond.eq (.elem tW (.int (Int32.ofNat j))) (.int (([0, 39, 40] : List Int32).getD j 0)) ∈ lx_f := by decide +kernel
set_option maxRecDepth 100000 in
theorem lx_m4 : ∀ i : Nat, i < 2 → Cond.exactly (lx_tm i) "java/lang/String" ∈ lx_f ∧ Cond.eq (.field (lx_tm i) "java/lang/String" "coder" "B") (.int 0) ∈ lx_f ∧ Cond.arrayOf (.field (lx_tm i) "java/lang/String" "value" "[B") .byte ∈ lx_f ∧ Cond.eq (.length (.field (lx_tm i) "java/lang/String" "value" "[B")) (.int (Int32.ofNat (([63, 10] : List Nat).getD i 0))) ∈ lx_f := by decide +kernel
set_option maxRecDepth 100000 in
theorem lx_m5 : ∀ i : Nat, i < 2 → ∀ j : Nat, j < ([63, 10] : List Nat).getD i 0 → Cond.eq (.elem (.field (lx_tm i) "java/lang/String" "value" "[B") (.int (Int32.ofNat j))) (.int ((([wm_S1, wm_S2] : List (List Int32)).getD i []).getD j 0)) ∈ lx_f := by decide +kernel
set_option maxRecDepth 100000 in
theorem lx_m6 : Cond.not (Cond.eq (lx_tm 0) (lx_tm 1)) ∈ lx_f ∧ Cond.eq (.static "java/lang/String" "COMPACT_STRINGS" "Z") (.int 1) ∈ lx_f ∧ Cond.isRef (.static "jdk/internal/util/Preconditions" "SIOOBE_FORMATTER" "Ljava/util/function/BiFunction;") ∈ lx_f := by decide +kernel
def lx_x (t0 t1 t2 b : Nat) (adK adV : Nat → Nat) (c : Nat) : Nat := bif Nat.beq c 1000 then t0 else bif Nat.beq c 1001 then t1 else bif Nat.beq c 1002 then t2 else bif Nat.beq c 3000 then b else bif Nat.blt c 2010 then adK (c - 2000) else adV (c - 2010)
theorem lx_X {b : Nat} {s : State} (hts : ∀ w ∈ lw_tbl, w.before #[Value.ref b] s = true) (hgv : (Jvm.Cond.and given_1 narrow_1).before #[Value.ref b] s = true) : ∃ ad' : Nat → Nat, ad' 3000 = b ∧ ∀ (D : va_G) (g : ClassId × ClassId × ClassId) (ad : Nat → Nat), (∀ c, 112 ≤ c → ad c = ad' c) → wm_X (D, g, ad, s.heap.size) s := by
  have hs := flat_of_before _ hgv
  have hw := lx_T hts
  have hA : ∀ a : Nat, a < s.heap.size → ¬ (fun q : Nat => s.heap.size ≤ q) a := fun a ha h => absurd h (Nat.not_le.mpr ha)
  obtain ⟨t0, z0, T0⟩ := lx_row (vs := [24, 28, 39, 20, 16]) (by decide) hs (cy_w hts 0 rfl) (hw _ (cx_in (o := 0) (by decide +kernel))) lx_m1.1 lx_m1.2.1 lx_m1.2.2 hA
  obtain ⟨t1, z1, T1⟩ := lx_row (vs := [-1, 0, 1, 0, 3]) (by decide) hs (cy_w hts 1 rfl) (hw _ (cx_in (o := 0) (by decide +kernel))) lx_m2.1 lx_m2.2.1 lx_m2.2.2 hA
  obtain ⟨t2, z2, T2⟩ := lx_row (vs := [0, 39, 40]) (by decide) hs (cy_w hts 6 rfl) (hw _ (cx_in (o := 6) (by decide +kernel))) lx_m3.1 lx_m3.2.1 lx_m3.2.2 hA
  have z3 := va_Zof (cy_w hts 3 rfl) (hw _ (cx_in (o := 16) (by decide +kernel))) (va_eqt (hs _ lx_m6.2.1)) hA
  obtain ⟨adK, adV, hSt, hev⟩ := vk_Sof (tm := lx_tm) (len := [63, 10]) (byt := [wm_S1, wm_S2]) (N := 2) (by decide) (fun i hi => hs _ (lx_m4 i hi).1) (fun i hi => hs _ (lx_m4 i hi).2.1) (fun i hi => hs _ (lx_m4 i hi).2.2.1) (fun i hi => hs _ (lx_m4 i hi).2.2.2) (fun i hi j hj => hs _ (lx_m5 i hi j hj)) (fun i j hi hj hne => by
    rcases (show (i = 0 ∧ j = 1) ∨ (i = 1 ∧ j = 0) by omega) with ⟨rfl, rfl⟩ | ⟨rfl, rfl⟩
    · exact Or.inl (hs _ lx_m6.1)
    · exact Or.inr (hs _ lx_m6.1)) hA
  have zq := va_Zqof (cy_w hts 4 rfl) (hw _ (cx_in (o := 20) (by decide +kernel))) (hs _ lx_m6.2.2) hA
  have r0 := vk_R.of (cy_w hts 2 rfl) (hev 0 (by decide))
  have r1 := vk_R.of (cy_w hts 5 rfl) (hev 1 (by decide))
  refine ⟨lx_x t0 t1 t2 b adK adV, rfl, fun D g ad had => ?_⟩
  have e0 : ad 1000 = t0 := had 1000 (by omega)
  have e1 : ad 1001 = t1 := had 1001 (by omega)
  have e2 : ad 1002 = t2 := had 1002 (by omega)
  have ek0 : ad 2000 = adK 0 := had 2000 (by omega)
  have ek1 : ad 2001 = adK 1 := had 2001 (by omega)
  have ev0 : ad 2010 = adV 0 := had 2010 (by omega)
  have ev1 : ad 2011 = adV 1 := had 2011 (by omega)
  refine ⟨lx_N hts, fun q hq => ?_, fun q hq => ?_, ⟨fun i hi => ?_, fun i j hi hj he => ?_⟩, ?_, ?_, zq⟩
  · simp only [wm_SV, List.mem_cons, List.not_mem_nil, or_false] at hq
    rcases hq with rfl | rfl | rfl | rfl
    · show va_Z _ _ _ (.ref (ad 1000)) _ s s.heap
      rw [e0]; exact z0
    · show va_Z _ _ _ (.ref (ad 1001)) _ s s.heap
      rw [e1]; exact z1
    · show va_Z _ _ _ (.ref (ad 1002)) _ s s.heap
      rw [e2]; exact z2
    · exact z3
  · simp only [wm_OA, List.mem_cons, List.not_mem_nil, or_false] at hq
    rcases hq with rfl | rfl | rfl
    · show va_T _ (ad 1000) _ _ _ s s.heap
      rw [e0]; exact T0
    · show va_T _ (ad 1001) _ _ _ s s.heap
      rw [e1]; exact T1
    · show va_T _ (ad 1002) _ _ _ s s.heap
      rw [e2]; exact T2
  · have h9 := hSt.1 i hi
    have q1 : ad (2000 + i) = adK i := by
      rcases (show i = 0 ∨ i = 1 by omega) with rfl | rfl
      · exact ek0
      · exact ek1
    have q2 : ad (2010 + i) = adV i := by
      rcases (show i = 0 ∨ i = 1 by omega) with rfl | rfl
      · exact ev0
      · exact ev1
    show va_O _ (ad (2000 + i)) _ s s.heap ∧ va_OF _ _ _ _ (ad (2000 + i)) _ s s.heap ∧ va_OF _ _ _ (.ref (ad (2010 + i))) (ad (2000 + i)) _ s s.heap ∧ va_T _ (ad (2010 + i)) _ _ _ s s.heap
    rw [q1, q2]
    exact h9
  · have he : ad (2000 + i) = ad (2000 + j) := he
    refine hSt.2 i j hi hj ?_
    rcases (show i = 0 ∨ i = 1 by omega) with rfl | rfl <;> rcases (show j = 0 ∨ j = 1 by omega) with rfl | rfl
    · rfl
    · rw [← ek0, ← ek1]; exact he
    · rw [← ek0, ← ek1]; exact he
    · rfl
  · show vk_R _ _ _ (ad 2000) s
    rw [ek0]; exact r0
  · show vk_R _ _ _ (ad 2001) s
    rw [ek1]; exact r1
