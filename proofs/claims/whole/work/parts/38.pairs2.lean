/-! ===== wind, rival ===== -/
theorem rcT_156 : ∀ q ∈ rcT, q.2.2.1 + q.2.2.2 ≤ 156 ∨ 324 ≤ q.2.2.1 := by decide +kernel
theorem rcT_399 : ∀ q ∈ rcT, q.2.2.1 + q.2.2.2 ≤ 399 ∨ 449 ≤ q.2.2.1 := by decide +kernel
theorem rcT_471 : ∀ q ∈ rcT, q.2.2.1 + q.2.2.2 ≤ 471 ∨ 1995 ≤ q.2.2.1 := by decide +kernel
theorem rcT_2004 : ∀ q ∈ rcT, q.2.2.1 + q.2.2.2 ≤ 2004 ∨ 2040 ≤ q.2.2.1 := by decide +kernel
theorem CL.wind {m : Nat} {A : Nat → Nat} {μ : wm_M} (h : CL m A μ) {p b c : Nat} (hp : p < 84) (hb : b ≤ 7) (hc : c ≤ 39) : CL m (uN (uN (uN A (72 + p) b) (156 + p) c) (240 + p) 1) (wm_si (wm_si μ 5 p (nI b)) 6 p (nI c)) := by
  have h0 := h.wr 5 0 72 84 (by decide) (by decide) p hp b (by rw [bd_from _ hp]; omega) (by omega)
  rw [Nat.zero_add] at h0
  obtain ⟨h1, h2, h3, h4, h5⟩ := h0
  have h12 := h1.rules
  have w1 : BA m (uN (uN A (72 + p) b) (156 + p) c) := h1.w (by rw [bd_force _ hp]; omega)
  refine ⟨w1.w (by rw [bd_told _ hp]; omega), (h2.up c (by omega)).up 1 (by omega), ?_, ?_, ?_⟩
  · have r := (h3.up (156 + p) c (fun q hq => by have := rcT_156 q hq; omega)).up (240 + p) 1 (fun q hq => by have := rcT_156 q hq; omega)
    refine r.fr (fun q hq => si_ne _ _ _ ?_)
    have : ∀ q ∈ rcT, q.1 + 0 ≠ 6 := by decide +kernel
    exact this q hq
  · obtain ⟨g1, g2, g3, g4, g5⟩ := h4
    refine ⟨fun i hi => ?_, fun i hi => ?_, fun i hi => ?_, fun r w hr hw => ?_, ?_⟩
    · show (wm_si (wm_si μ 5 p (nI b)) 6 p (nI c)).1 6 i = _
      by_cases e : i = p
      · subst e
        rw [si_same, uN_eq, if_neg (by decide), uN_ne _ _ (by omega), uN_eq]
      · rw [si_other _ _ e]
        have q := g1 i hi
        simp (disch := omega) only [uN_ne] at q ⊢
        exact q
    · have q := g2 i hi
      simp (disch := omega) only [uN_ne] at q ⊢
      exact q
    · have q := g3 i hi
      simp (disch := omega) only [uN_ne] at q ⊢
      exact q
    · have q := g4 r w hr hw
      simp (disch := omega) only [uN_ne] at q ⊢
      exact q
    · have h8 := w1.hands
      rw [uN_ne _ _ (by omega), awk_up (by omega) _ (by omega), uN_ne _ _ (by omega)]
      have h8 := h1.hands
      rw [awk_up (by omega) _ (by omega)]
      exact g5
  · have h12' := w1.rules
    exact ((h5.up (by omega) c (by omega)).up (by omega) 1 (by omega)).fr1 _ (by decide)
theorem p_wind (a b c : Int32) {n : Nat} {μ : wm_M} (h : Rel n μ) : wm_OkI 0 117 [.ref 0, .int a, .int b, .int c] μ (Pr n 196 [.ref 89, .int a, .int b, .int c]) := by
  refine s_117 (fun z => s_196 (fun _ => ⟨rfl, (h.rf 3).up⟩) (fun t ht e g1 g2 => absurd ⟨g1, g2⟩ (z t ht e)) (fun t ht e g1 g2 => absurd ⟨g1, g2⟩ (z t ht e))) (fun t ht e g1 g2 z => s_196 (fun y => absurd ⟨g1, g2⟩ (y t ht e)) (fun _ _ _ _ _ _ => ⟨rfl, (h.rf 7).up⟩) (fun t ht e g1 g2 x y => absurd ⟨x, y⟩ z)) (fun t ht e g1 g2 x y => ?_)
  refine s_196 (fun y => absurd ⟨g1, g2⟩ (y t ht e)) (fun _ _ _ _ _ z => absurd ⟨x, y⟩ z) (fun t' ht' e' _ _ _ _ => ?_)
  have et : t' = t := ((nI_eq ht ht').mp (e.symm.trans e')).symm
  subst et
  obtain ⟨A, hA, hO⟩ := h
  obtain ⟨b', hb', rfl⟩ := in_nI 7 (by decide) x
  obtain ⟨c', hc', rfl⟩ := in_nI 39 (by decide) y
  rw [show 12 * (t' % 10) + t' / 10 = t' % 10 * 12 + t' / 10 by omega]
  generalize hp : t' % 10 * 12 + t' / 10 = p
  have hp8 : p < 84 := by omega
  refine ⟨?_, ?_⟩
  · show μ.1 6 p = if μ.1 91 (240 + p) = 1 then μ.1 91 (156 + p) else -1
    rw [hA.2.2.1 _ (show 240 + p < 2060 by omega), hA.2.2.1 _ (show 156 + p < 2060 by omega)]
    refine (hA.2.2.2.1.2.1.1 p hp8).trans ?_
    have ht2 := hA.1.told hp8
    by_cases q : A (240 + p) = 0
    · rw [if_pos q, q, if_neg (by decide)]
    · have q1 : A (240 + p) = 1 := by omega
      rw [if_neg q, q1]; exact (if_pos (by decide)).symm
  · have hC := (hA.cl (Nat.le_succ n)).ch.wind hp8 hb' hc'
    exact Rel.fin hO ((((((Sm_ch _ μ rfl rfl rfl).si rfl).si rfl).si rfl).si rfl).si rfl) (Nat.le_succ n) (((hC.si rfl).si rfl).si rfl) ((((hA.2.2.1.fr rfl).w (72 + p) b').w (156 + p) c').w (240 + p) 1) rfl rfl rfl
theorem CL.rival {m : Nat} {A : Nat → Nat} {μ : wm_M} (h : CL m A μ) {r w c : Nat} (hr : r < 6) (hw : w < 6) (hc : c ≤ 999) : CL m (uN A (2004 + 6 * r + w) c) (wm_si μ 29 (w * 6 + r) (nI c)) := by
  obtain ⟨h1, h2, h3, h4, h5⟩ := h
  have h12 := h1.rules
  have h8 := h1.hands
  refine ⟨h1.w (by rw [show 2004 + 6 * r + w = 2004 + (6 * r + w) by omega, bd_rival _ (by omega)]; omega), h2.up c (by omega), ?_, ?_, ?_⟩
  · have r' := h3.up (2004 + 6 * r + w) c (fun q hq => by have := rcT_2004 q hq; omega)
    refine r'.fr (fun q hq => si_ne _ _ _ ?_)
    have : ∀ q ∈ rcT, q.1 + 0 ≠ 29 := by decide +kernel
    exact this q hq
  · obtain ⟨g1, g2, g3, g4, g5⟩ := h4
    refine ⟨fun i hi => ?_, fun i hi => ?_, fun i hi => ?_, fun r' w' hr' hw' => ?_, ?_⟩
    · rw [uN_ne _ _ (by omega), uN_ne _ _ (by omega)]; exact g1 i hi
    · rw [uN_ne _ _ (by omega), uN_ne _ _ (by omega)]; exact g2 i hi
    · rw [uN_ne _ _ (by omega), uN_ne _ _ (by omega)]; exact g3 i hi
    · show (wm_si μ 29 (w * 6 + r) (nI c)).1 29 (w' * 6 + r') = _
      by_cases e : w' * 6 + r' = w * 6 + r
      · rw [show 2004 + 6 * r' + w' = 2004 + 6 * r + w by omega, e, si_same, uN_eq]
      · rw [si_other _ _ e, uN_ne _ _ (by omega)]; exact g4 r' w' hr' hw'
    · rw [uN_ne _ _ (by omega), awk_up (by omega) _ (by omega)]
      exact g5
  · exact (h5.up (by omega) c (by omega)).fr1 _ (by decide)
theorem p_rival (a b c : Int32) {n : Nat} {μ : wm_M} (h : Rel n μ) : wm_OkI 0 143 [.ref 0, .int a, .int b, .int c] μ (Pr n 280 [.ref 89, .int a, .int b, .int c]) := by
  refine s_143 (fun z => s_280 (fun _ => ⟨rfl, (h.rf 3).up⟩) (fun x y => absurd ⟨x, y⟩ z) (fun i j hi hj e f => absurd ⟨by rw [e]; exact nI_in2 hi (by decide), by rw [f]; exact nI_in2 hj (by decide)⟩ z)) (fun x y z => s_280 (fun w => absurd ⟨x, y⟩ w) (fun _ _ _ => ⟨rfl, (h.rf 7).up⟩) (fun i j hi hj e f w => absurd w z)) (fun i j hi hj e f z => ?_)
  have x : ir 5 a := by rw [e]; exact nI_in2 hi (by decide)
  have y : ir 5 b := by rw [f]; exact nI_in2 hj (by decide)
  refine s_280 (fun w => absurd ⟨x, y⟩ w) (fun _ _ w => absurd z w) (fun i' j' hi' hj' e' f' _ => ?_)
  have ei : i' = i := ((nI_eq (by omega) (by omega)).mp (e.symm.trans e')).symm
  have ej : j' = j := ((nI_eq (by omega) (by omega)).mp (f.symm.trans f')).symm
  subst ei; subst ej
  obtain ⟨A, hA, hO⟩ := h
  obtain ⟨c', hc', rfl⟩ := in_nI 999 (by decide) z
  refine ⟨?_, ?_⟩
  · exact (hA.2.2.2.1.2.1.2.2.2.1 i' j' (by omega) (by omega)).trans (hA.2.2.1 _ (by omega)).symm
  · have hC := (hA.cl (Nat.le_succ n)).ch.rival (r := i') (w := j') (by omega) (by omega) hc'
    exact Rel.fin hO (((Sm_ch _ μ rfl rfl rfl).si rfl).si rfl) (Nat.le_succ n) (hC.si rfl) ((hA.2.2.1.fr rfl).w _ c') rfl rfl rfl
/-! ===== wipe, lay, set, tear, row, status ===== -/
theorem Rel.oth {n : Nat} {μ ν : wm_M} (h : Rel n μ) (e : Sm (fun c i => kA 0 c i || Nat.beq c 91 || kV c i) μ ν) (hO : RO n ν) : Rel n ν := by
  obtain ⟨A, ⟨h1, h2, h3, h4, h5⟩, _⟩ := h
  refine ⟨A, ⟨h1, h2, fun i hi => ?_, h4.sm (Or.inl rfl) (e.le (fun c i q => ?_)), h5.sm (e.le (fun c i q => ?_))⟩, hO⟩
  · rw [e 91 i (by show (kA 0 91 i || Nat.beq 91 91 || kV 91 i) = true; rw [show Nat.beq 91 91 = true from rfl, Bool.or_true]; rfl)]; exact h3 i hi
  · show (kA 0 c i || Nat.beq c 91 || kV c i) = true
    rw [q]; rfl
  · show (kA 0 c i || Nat.beq c 91 || kV c i) = true
    rw [q, Bool.or_true]
theorem p_wipe {n : Nat} {μ : wm_M} (h : Rel n μ) : wm_OkI 0 130 [.ref 0] μ (Pr n 224 [.ref 89]) := by
  refine s_130 (s_224 ?_)
  have h' := h
  obtain ⟨A, hA, ⟨t, T, t1, t2, t3, t4⟩, g2, g3, g4, g5⟩ := h
  refine ⟨t2.trans t3.symm, (h'.oth (((Sm.rf _ _).si rfl).si rfl) ⟨⟨0, T, Nat.zero_le _, rfl, rfl, fun i hi => by omega⟩, g2.sm (((Sm.rf _ _).si rfl).si rfl), g3.sm (((Sm.rf _ _).si rfl).si rfl), g4.sm (((Sm.rf _ _).si rfl).si rfl), g5.sm (((Sm.rf _ _).si rfl).si rfl)⟩).up⟩
theorem p_tear {n : Nat} {μ : wm_M} (h : Rel n μ) : wm_OkI 0 157 [.ref 0] μ (Pr n 307 [.ref 89]) := by
  refine s_157 (s_307 ?_)
  have h' := h
  obtain ⟨A, hA, g1, ⟨m1, m2⟩, g3, g4, g5⟩ := h
  have sm : ∀ K : Nat → Nat → Bool, K 0 9 = false → K 89 49 = false → Sm K μ (wm_si (wm_si μ 0 9 (-1)) 89 49 0) := fun K a b => ((Sm.rf K μ).si a).si b
  refine ⟨?_, (h'.oth (sm _ rfl rfl) ⟨g1.sm (sm _ rfl rfl), ⟨Or.inl ⟨rfl, rfl⟩, fun i hi => m2 i hi⟩, g3.sm (sm _ rfl rfl), g4.sm (sm _ rfl rfl), g5.sm (sm _ rfl rfl)⟩).up⟩
  show bI (¬ μ.1 0 9 = -1) = bI (¬ μ.1 89 49 = 0)
  rcases m1 with ⟨a, b⟩ | ⟨m, hm, a, b, c⟩
  · rw [a, b]; decide
  · rw [bI_t, bI_t]
    · rw [c]; decide
    · rw [a]; exact fun q => (nI_eqm (b := 1) (by omega) (by omega) (by omega)).mp q
theorem p_lay (a : Int32) {n : Nat} {μ : wm_M} (h : Rel n μ) : wm_OkI 0 155 [.ref 0, .int a] μ (Pr n 305 [.ref 89, .int a]) := by
  refine s_155 (fun z => s_305 (fun _ => ⟨rfl, (h.rf 4).up⟩) (fun x => absurd x z) (fun x => absurd x z)) (fun z y => s_305 (fun x => absurd z x) (fun _ _ => ⟨rfl, (h.rf 7).up⟩) (fun _ x => absurd x y)) (fun z y => s_305 (fun x => absurd z x) (fun _ x => absurd y x) (fun _ _ => ⟨rfl, ?_⟩))
  have h' := h
  obtain ⟨A, hA, g1, ⟨m1, m2⟩, g3, g4, g5⟩ := h
  obtain ⟨m, hm, rfl⟩ := in_nI 12 (by decide) ⟨z, y⟩
  have sm : ∀ K : Nat → Nat → Bool, (∀ i, K 85 i = false) → K 0 9 = false → (∀ i, K 111 i = false) → K 89 48 = false → K 89 49 = false → Sm K μ (wm_si (wm_si (wm_sr (wm_si (wm_sr μ 85 (fl (μ.1 85) 12 0)) 0 9 (nI m)) 111 (fl (μ.1 111) 12 0)) 89 48 (nI m)) 89 49 1) := fun K a b c d e => (((((Sm.rf K μ).sr a).si b).sr c).si d).si e
  refine (h'.oth (sm _ (fun _ => rfl) rfl (fun _ => rfl) rfl rfl) ⟨g1.sm (sm _ (fun _ => rfl) rfl (fun _ => rfl) rfl rfl), ⟨Or.inr ⟨m, hm, rfl, rfl, rfl⟩, fun i hi => ?_⟩, g3.sm (sm _ (fun _ => rfl) rfl (fun _ => rfl) rfl rfl), g4.sm (sm _ (fun _ => rfl) rfl (fun _ => rfl) rfl rfl), g5.sm (sm _ (fun _ => rfl) rfl (fun _ => rfl) rfl rfl)⟩).up
  show fl (μ.1 85) 12 0 i = fl (μ.1 111) 12 0 i
  unfold fl
  rw [if_pos hi, if_pos hi]
theorem p_set (a b : Int32) {n : Nat} {μ : wm_M} (h : Rel n μ) : wm_OkI 0 156 [.ref 0, .int a, .int b] μ (Pr n 306 [.ref 89, .int a, .int b]) := by
  have h' := h
  obtain ⟨A, hA, g1, ⟨m1, m2⟩, g3, g4, g5⟩ := h
  rcases m1 with ⟨e1, e2⟩ | ⟨m, hm, e1, e2, e3⟩
  · have nn : ∀ m : Nat, m ≤ 12 → ¬ μ.1 0 9 = nI m := fun m hm q => (nI_meq (a := m) (b := 1) (by omega) (by omega) (by omega)).mp (e1.symm.trans q)
    exact s_156 (fun _ => s_306 0 (by omega) (fun q => absurd e2 q) (fun _ => ⟨rfl, (h'.rf 2).up⟩) (fun q => absurd e2 q) (fun i q => absurd e2 q)) (fun m hm q => absurd q (nn m hm)) (fun m i hm q => absurd q (nn m hm)) (Or.inl e1)
  · have nm : ∀ m' : Nat, m' ≤ 12 → μ.1 0 9 = nI m' → m' = m := fun m' hm' q => ((nI_eq (by omega) (by omega)).mp (e1.symm.trans q)).symm
    have n1 : ¬ μ.1 0 9 = -1 := fun q => (nI_eqm (a := m) (b := 1) (by omega) (by omega) (by omega)).mp (e1.symm.trans q)
    have n0 : ¬ μ.1 89 49 = 0 := by rw [e3]; decide
    refine s_156 (fun q => absurd q n1) (fun m' hm' q z => ?_) (fun m' i hm' q hi z => ?_) (Or.inr ⟨m, hm, e1⟩)
    · have := nm m' hm' q; subst this
      exact s_306 m' hm (fun _ => e2) (fun q => absurd q n0) (fun _ _ => ⟨rfl, (h'.rf 3).up⟩) (fun i _ hi q => absurd q (z i hi))
    · have := nm m' hm' q; subst this
      refine s_306 m' hm (fun _ => e2) (fun q => absurd q n0) (fun _ q => absurd z (q i hi)) (fun i' _ hi' z' => ?_)
      have : i' = i := ((nI_eq (by omega) (by omega)).mp (z.symm.trans z')).symm
      subst this
      have sm : ∀ K : Nat → Nat → Bool, (∀ i, K 85 i = false) → (∀ i, K 111 i = false) → Sm K μ (wm_si (wm_si μ 85 i' b) 111 i' b) := fun K a b => ((Sm.rf K μ).si (a _)).si (b _)
      refine ⟨m2 i' (by omega), (h'.oth (sm _ (fun _ => rfl) (fun _ => rfl)) ⟨g1.sm (sm _ (fun _ => rfl) (fun _ => rfl)), ⟨Or.inr ⟨m', hm, e1, e2, e3⟩, fun j hj => ?_⟩, g3.sm (sm _ (fun _ => rfl) (fun _ => rfl)), g4.sm (sm _ (fun _ => rfl) (fun _ => rfl)), g5.sm (sm _ (fun _ => rfl) (fun _ => rfl))⟩).up⟩
      show upd (μ.1 85) i' b j = upd (μ.1 111) i' b j
      by_cases e : j = i'
      · subst e; rw [wm_upd_eq, wm_upd_eq]
      · rw [wm_upd_ne e, wm_upd_ne e]; exact m2 j hj
theorem p_row (a : Int32) {n : Nat} {μ : wm_M} (h : Rel n μ) : wm_OkI 0 158 [.ref 0, .int a] μ (Pr n 308 [.ref 89, .int a]) := by
  have h' := h
  obtain ⟨A, hA, g1, ⟨m1, m2⟩, g3, g4, g5⟩ := h
  rcases m1 with ⟨e1, e2⟩ | ⟨m, hm, e1, e2, e3⟩
  · have nn : ∀ m : Nat, m ≤ 12 → ¬ μ.1 0 9 = nI m := fun m hm q => (nI_meq (a := m) (b := 1) (by omega) (by omega) (by omega)).mp (e1.symm.trans q)
    exact s_158 (fun _ => s_308 0 (by omega) (fun q => absurd e2 q) (fun _ => ⟨rfl, (h'.rf 2).up⟩) (fun q => absurd e2 q) (fun i q => absurd e2 q)) (fun m hm q => absurd q (nn m hm)) (fun m i hm q => absurd q (nn m hm)) (Or.inl e1)
  · have nm : ∀ m' : Nat, m' ≤ 12 → μ.1 0 9 = nI m' → m' = m := fun m' hm' q => ((nI_eq (by omega) (by omega)).mp (e1.symm.trans q)).symm
    have n1 : ¬ μ.1 0 9 = -1 := fun q => (nI_eqm (a := m) (b := 1) (by omega) (by omega) (by omega)).mp (e1.symm.trans q)
    have n0 : ¬ μ.1 89 49 = 0 := by rw [e3]; decide
    refine s_158 (fun q => absurd q n1) (fun m' hm' q z => ?_) (fun m' i hm' q hi z => ?_) (Or.inr ⟨m, hm, e1⟩)
    · have := nm m' hm' q; subst this
      exact s_308 m' hm (fun _ => e2) (fun q => absurd q n0) (fun _ _ => ⟨rfl, (h'.rf 3).up⟩) (fun i _ hi q => absurd q (z i hi))
    · have := nm m' hm' q; subst this
      refine s_308 m' hm (fun _ => e2) (fun q => absurd q n0) (fun _ q => absurd z (q i hi)) (fun i' _ hi' z' => ?_)
      have : i' = i := ((nI_eq (by omega) (by omega)).mp (z.symm.trans z')).symm
      subst this
      exact ⟨m2 i' (by omega), h'.up⟩
theorem p_status (a : Int32) {n : Nat} {μ : wm_M} (h : Rel n μ) : wm_OkI 0 160 [.ref 0, .int a] μ (Pr n 310 [.ref 89, .int a]) := by
  have nk : ∀ k : Nat, k ≤ 8 → (-(nI k)).toInt = -(k : Int) := fun k hk => by rw [sb_negT (by omega)]
  have kk : ∀ k : Nat, 2 ≤ k → k ≤ 8 → (-8 : Int32) ≤ -(nI k) ∧ -(nI k) ≤ (-2 : Int32) := fun k h2 h8 => by
    rw [Int32.le_iff_toInt_le, Int32.le_iff_toInt_le, nk k h8, show ((-8 : Int32)).toInt = -8 from by decide +kernel, show ((-2 : Int32)).toInt = -2 from by decide +kernel]
    omega
  refine s_160 (fun z => s_310 (fun _ => ⟨rfl, (h.rf 7).up⟩) (fun k h2 h8 e => absurd (by rw [e]; exact kk k h2 h8) z)) (fun k h2 h8 e => s_310 (fun z => absurd (by rw [e]; exact kk k h2 h8) z) (fun k' h2' h8' e' => ?_))
  have : k' = k := by
    have q := congrArg Int32.toInt (e.symm.trans e')
    rw [nk k h8, nk k' h8'] at q
    omega
  subst this
  have h' := h
  obtain ⟨A, hA, g1, g2, g3, g4, g5⟩ := h
  exact ⟨g3 k' (by omega), h'.up⟩
