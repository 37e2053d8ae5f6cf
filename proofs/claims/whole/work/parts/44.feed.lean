/-! ===== hand, sleep ===== -/
theorem RT.out {A : Nat → Nat} {μ : wm_M} (h : RT 0 A μ) {c k : Nat} (x : Int32) (hk : ∀ q ∈ rcT, q.1 ≠ c ∨ k < q.2.1 ∨ q.2.1 + q.2.2.2 ≤ k) : RT 0 A (wm_si μ c k x) := by
  intro q hq i hi
  have e := hk q hq
  by_cases hc : q.1 = c
  · subst hc
    show (wm_si μ q.1 k x).1 q.1 (q.2.1 + i) = _
    rw [si_other _ _ (by omega)]; exact h q hq i hi
  · rw [si_ne _ _ _ (show q.1 + 0 ≠ c from hc)]; exact h q hq i hi
theorem awk_up2 {A : Nat → Nat} {k x : Nat} : ∀ m, (∀ i, i < m → k ≠ 463 + i) → awk (uN A k x) m = awk A m
  | 0, _ => rfl
  | m + 1, h => by
    unfold awk
    rw [awk_up2 m (fun i hi => h i (by omega)), uN_ne _ _ (Ne.symm (h m (by omega)))]
theorem awk_set {A : Nat → Nat} {i x : Nat} (hx : x < 2) (ho : A (463 + i) < 2) : ∀ m, i < m → awk (uN A (463 + i) x) m + x = awk A m + A (463 + i)
  | 0, h => by omega
  | m + 1, h => by
    unfold awk
    by_cases e : i = m
    · subst e
      rw [awk_up2 i (fun j hj => by omega), uN_eq]; omega
    · rw [uN_ne _ _ (by omega)]
      have := awk_set (A := A) hx ho m (by omega)
      omega
theorem CL.hand {m : Nat} {A : Nat → Nat} {μ : wm_M} (h : CL m A μ) {k : Nat} (hk : A 2041 = k) (h8 : k < 8) : CL m (uN (uN (uN A (455 + k) 0) (463 + k) 0) 2041 (k + 1)) (wm_si (wm_si (wm_si (wm_si μ 16 k (nI 0)) 17 k (nI 0)) 13 13 (nI (k + 1))) 13 14 (nI (awk A k + 1))) := by
  have h0 := h.wr 16 0 455 8 (by decide) (by decide) k h8 0 (by rw [bd_tired _ h8]; omega) (by omega)
  simp only [Nat.zero_add] at h0
  obtain ⟨h1, h2, h3, h4, h5⟩ := h0
  have b12 := h1.rules
  have w2 := h1.w (k := 463 + k) (x := 0) (by rw [bd_sleeps _ h8]; omega)
  have b12' := w2.rules
  refine ⟨w2.w (show k + 1 < 9 by omega), (h2.up 0 (by omega)).up _ (by omega), ?_, ?_, ?_⟩
  · exact ((h3.w_sleeps h8 0).w_hands (k + 1)).out _ (by decide)
  · obtain ⟨g1, g2, g3, g4, g5⟩ := h4
    refine ⟨fun i hi => ?_, fun i hi => ?_, fun i hi => ?_, fun r w hr hw => ?_, ?_⟩
    · have q := g1 i hi
      simp (disch := omega) only [uN_ne] at q ⊢
      exact q
    · have q := g2 i hi
      simp (disch := omega) only [uN_ne] at q ⊢
      exact q
    · have q := g3 i hi
      simp (disch := omega) only [uN_ne] at q ⊢
      exact q
    · have q := g4 r w hr hw
      simp (disch := omega) only [uN_ne] at q ⊢
      exact q
    · rw [uN_eq]
      show (wm_si (wm_si (wm_si (wm_si μ 16 k (nI 0)) 17 k (nI 0)) 13 13 (nI (k + 1))) 13 14 (nI (awk A k + 1))).1 13 14 = _
      rw [si_same, show ∀ B : Nat → Nat, awk B (k + 1) = awk B k + (1 - B (463 + k)) from fun _ => rfl, awk_up2 k (fun i hi => by omega), awk_up2 k (fun i hi => by omega), awk_up2 k (fun i hi => by omega), uN_ne _ _ (by omega), uN_eq]
  · exact (((((h5.up (by omega) _ (by omega)).up (by omega) _ (by omega)).fr1 _ (by decide)).fr1 _ (by decide)).fr1 _ (by decide))
theorem c_10 {m : Nat} {A : Nat → Nat} {μ : wm_M} {Q : Int32 → wm_M → Prop} (hC : CL m A μ) (h8 : A 2041 < 8) (hq : ∀ ν, CL m (uN (uN (uN A (455 + A 2041) 0) (463 + A 2041) 0) 2041 (A 2041 + 1)) ν → Sm KM μ ν → Q (nI (A 2041)) ν) : wm_OkI 0 10 [.ref 13] μ Q := by
  have hi : vp_in (nI (A 2041)) 8 := vp_in_nI h8 (by decide)
  have hc := nI_clamp (n := A 2041) (by omega)
  have es : μ.1 13 13 = nI (A 2041) := hC.2.2.1.hands
  have ea : μ.1 13 14 = nI (awk A (A 2041)) := hC.2.2.2.1.2.2.2.2
  refine v_10 _ _ ?_
  rw [es, hc]
  have e2 : ∀ x, (wm_si μ 16 (A 2041) x).1 13 13 = nI (A 2041) := fun x => es
  rw [e2, hc, vn0]
  have e3 : ∀ x y, (wm_si (wm_si μ 16 (A 2041) x) 17 (A 2041) y).1 13 13 = nI (A 2041) := fun x y => es
  rw [e3, nI_1]
  have e4 : ∀ x y z, (wm_si (wm_si (wm_si μ 16 (A 2041) x) 17 (A 2041) y) 13 13 z).1 13 14 = nI (awk A (A 2041)) := fun x y z => ea
  rw [e4, nI_1, si_other _ _ (by decide), si_same, show (1 : Int32) = nI 1 from rfl, pk_sub (by omega), Nat.add_sub_cancel]
  exact ⟨hi, hi, _, rfl, hq _ (hC.hand rfl h8) (((((Sm.rf _ _).si rfl).si rfl).si rfl).si rfl)⟩
theorem p_hand {n : Nat} {μ : wm_M} (h : Rel n μ) : wm_OkI 0 127 [.ref 0] μ (Pr n 218 [.ref 89]) := by
  have h' := h
  obtain ⟨A, hA, hO⟩ := h
  have hs := hA.1.hands
  have ent : ∀ {ν : wm_M} {Q : Int32 → wm_M → Prop}, RM 91 A ν → ((A 2041 = 8 → wm_OkI 0 185 [.ref 89, .int (-(nI 8))] ν Q) ∧ (¬ A 2041 = 8 → wm_Wp 0 218 17 [.ref 89] ν (fun w κ => ∃ x, w = some (.int x) ∧ Q x κ))) → wm_OkI 0 218 [.ref 89] ν Q := fun {ν Q} hM w => v_218 _ _ (s_188 1 (by decide) (by
    rw [hM _ (by decide)]
    exact ⟨fun q => (w.1 ((nI_eq (b := 8) (by omega) (by decide)).mp q)).mono (fun x κ hx => ⟨_, rfl, hx⟩), fun q => w.2 (fun e => q (by rw [show 2040 + 1 = 2041 from rfl, e]; rfl))⟩))
  refine v_127 _ _ ?_
  rw [hA.2.2.2.1.1.hands]
  refine ⟨fun y => w_127_22 _ _ (s_163 (c_10 (hA.cl (Nat.le_succ n)).ch ((nI_ltI (b := 8) (by omega) (by decide)).mp y) (fun ν hC hS => ⟨_, rfl, ?_⟩))), fun y => s_161 8 (by decide) ⟨_, rfl, ent (hA.2.2.1.fr rfl) ⟨fun _ => s_185 8 (by decide) ⟨rfl, (h'.rf 8).up⟩, fun q => absurd (Nat.le_antisymm (by omega) (Nat.le_of_not_lt (fun r => y ((nI_ltI (b := 8) (by omega) (by decide)).mpr r)))) q⟩⟩⟩
  have h3 : A 2041 < 8 := (nI_ltI (b := 8) (by omega) (by decide)).mp y
  have hM := hA.2.2.1.km hS
  refine ent hM ⟨fun q => by omega, fun _ => w_218_17 _ _ (s_188 1 (by decide) ?_)⟩
  rw [hM _ (by decide)]
  have a1 : (455 : Int32) + nI (A 2041) = nI (455 + A 2041) := nI_add 455 _
  have a2 : (463 : Int32) + nI (A 2041) = nI (463 + A 2041) := nI_add 463 _
  rw [show 2040 + 1 = 2041 from rfl, a1, nI_clamp (by omega)]
  have m1 := hM.w (455 + A 2041) 0
  refine ⟨vp_in_nI (by omega) (by decide), s_188 1 (by decide) ?_⟩
  rw [show (0 : Int32) = nI 0 from rfl, m1 _ (by decide), uN_ne _ _ (by omega), show 2040 + 1 = 2041 from rfl, a2, nI_clamp (by omega)]
  have m2 := m1.w (463 + A 2041) 0
  rw [show ((2041 : Int32)).toNatClampNeg = 2041 from by decide +kernel, m2 2041 (by decide), uN_ne _ _ (by omega), uN_ne _ _ (by omega), nI_1]
  have m3 := m2.w 2041 (A 2041 + 1)
  refine ⟨vp_in_nI (by omega) (by decide), vp_in_nI (n := 2041) (by decide) (by decide), vp_in_nI (n := 2041) (by decide) (by decide), s_188 1 (by decide) ⟨_, rfl, ?_, Rel.fin3 hO hS (Nat.le_succ n) hC ((((Sm.rf _ _).si rfl).si rfl).si rfl) m3⟩⟩
  rw [show 2040 + 1 = 2041 from rfl, si_same, show (1 : Int32) = nI 1 from rfl, pk_sub (by omega), Nat.add_sub_cancel]
theorem CL.sleep {m : Nat} {A : Nat → Nat} {μ : wm_M} (h : CL m A μ) {i x : Nat} (hi : i < A 2041) (hx : x < 2) : CL m (uN A (463 + i) x) (wm_si (wm_si μ 13 14 (nI (awk (uN A (463 + i) x) (A 2041)))) 17 i (nI x)) := by
  obtain ⟨h1, h2, h3, h4, h5⟩ := h
  have b8 := h1.hands
  have b12 := h1.rules
  have hi8 : i < 8 := by omega
  refine ⟨h1.w (by rw [bd_sleeps _ hi8]; omega), h2.up _ (by omega), (h3.out _ (by decide)).w_sleeps hi8 x, ?_, ((h5.up (by omega) _ (by omega)).fr1 _ (by decide)).fr1 _ (by decide)⟩
  obtain ⟨g1, g2, g3, g4, g5⟩ := h4
  refine ⟨fun j hj => ?_, fun j hj => ?_, fun j hj => ?_, fun r w hr hw => ?_, ?_⟩
  · rw [uN_ne _ _ (by omega), uN_ne _ _ (by omega)]; exact g1 j hj
  · rw [uN_ne _ _ (by omega), uN_ne _ _ (by omega)]; exact g2 j hj
  · rw [uN_ne _ _ (by omega), uN_ne _ _ (by omega)]; exact g3 j hj
  · rw [uN_ne _ _ (by omega)]; exact g4 r w hr hw
  · rw [uN_ne _ _ (show 2041 ≠ 463 + i by omega)]
    rfl
theorem nI_as {a o x : Nat} (h : x ≤ a + o) : nI a + (nI o - nI x) = nI (a + o - x) := by
  rw [Int32.sub_eq_add_neg, ← Int32.add_assoc, nI_add, ← Int32.sub_eq_add_neg, pk_sub h]
theorem c_11 {m : Nat} {A : Nat → Nat} (i x : Nat) (hx : x < 2) {μ : wm_M} {Q : wm_M → Prop} (hC : CL m A μ) (hi : i < A 2041) (hq : ∀ ν, CL m (uN A (463 + i) x) ν → Sm KM μ ν → Q ν) : wm_OkV 0 11 [.ref 13, .int (nI i), .int (nI x)] μ Q := by
  have b8 := hC.1.hands
  have hi8 : i < 8 := by omega
  have hv : vp_in (nI i) 8 := vp_in_nI hi8 (by decide)
  have hc := nI_clamp (n := i) (by omega)
  have ea : μ.1 13 14 = nI (awk A (A 2041)) := hC.2.2.2.1.2.2.2.2
  have ho := hC.1.sleeps hi8
  have ho2 := awk_set (A := A) hx ho (A 2041) hi
  refine v_11 _ _ _ _ ⟨hv, ?_⟩
  rw [hc, hC.2.2.1.sleeps hi8, ea]
  refine s_177 (s_177 ⟨hv, rfl, ?_⟩)
  rw [bI_nI ho, bI_nI hx, nI_as (by omega), show awk A (A 2041) + A (463 + i) - x = awk (uN A (463 + i) x) (A 2041) by omega]
  have e : vp_nar .boolean (nI x) = nI x := by
    have : x = 0 ∨ x = 1 := by omega
    rcases this with rfl | rfl
    · exact vn0
    · exact vn1
  rw [e]
  exact hq _ (hC.sleep hi hx) (((Sm.rf _ _).si rfl).si rfl)
theorem p_sleep (a b : Int32) {n : Nat} {μ : wm_M} (h : Rel n μ) : wm_OkI 0 128 [.ref 0, .int a, .int b] μ (Pr n 219 [.ref 89, .int a, .int b]) := by
  have h' := h
  obtain ⟨A, hA, hO⟩ := h
  have hs := hA.1.hands
  have k1 : (b = 0 ∨ b = 1) ↔ (0 ≤ b ∧ b ≤ nI 1) := by
    refine ⟨fun q => ?_, fun q => ?_⟩
    · rcases q with rfl | rfl
      · decide +kernel
      · decide +kernel
    · obtain ⟨i, hi, rfl⟩ := in_nI 1 (by decide) q
      have : i = 0 ∨ i = 1 := by omega
      rcases this with rfl | rfl
      · exact Or.inl rfl
      · exact Or.inr rfl
  have ent : ∀ {ν : wm_M} {Q : Int32 → wm_M → Prop}, RM 91 A ν → ((bI (0 ≤ a ∧ a ≤ nI (A 2041) - 1) = 0 → wm_OkI 0 185 [.ref 89, .int (-(nI 3))] ν Q) ∧ (¬ bI (0 ≤ a ∧ a ≤ nI (A 2041) - 1) = 0 → wm_Wp 0 219 22 [.ref 89, .int a, .int b] ν (fun w κ => ∃ x, w = some (.int x) ∧ Q x κ))) → wm_OkI 0 219 [.ref 89, .int a, .int b] ν Q := fun {ν Q} hM w => v_219 _ _ _ _ (s_188 1 (by decide) (by
    rw [hM _ (by decide)]
    exact s_184 ⟨fun q => (w.1 q).mono (fun x κ hx => ⟨_, rfl, hx⟩), fun q => w.2 q⟩))
  refine v_128 _ _ _ _ ?_
  rw [hA.2.2.2.1.1.hands]
  refine s_178 ⟨fun z => s_161 3 (by decide) ⟨_, rfl, ent (hA.2.2.1.fr rfl) ⟨fun _ => s_185 3 (by decide) ⟨rfl, (h'.rf 3).up⟩, fun q => absurd z q⟩⟩, fun z => w_128_27 _ _ _ _ (s_176 ⟨fun y => s_161 7 (by decide) ⟨_, rfl, ent (hA.2.2.1.fr rfl) ⟨fun q => absurd q z, fun _ => w_219_22 _ _ _ _ (s_184 ⟨fun _ => s_185 7 (by decide) ⟨_, rfl, rfl, (h'.rf 7).up⟩, fun q => absurd (nz q) (fun r => bI_0.mp y (k1.mpr r))⟩)⟩⟩, fun y => w_128_41 _ _ _ _ (s_163 ?_)⟩)⟩
  have y := nz y
  have y1 := k1.mp y
  obtain ⟨i, hi, rfl⟩ := (rg (by omega)).mp (nz z)
  obtain ⟨x, hx, rfl⟩ := in_nI 1 (by decide) y1
  have hi8 : i < 8 := by omega
  have hv : vp_in (nI i) 8 := vp_in_nI hi8 (by decide)
  have fin : ∀ ν, CL (n + 1) (uN A (463 + i) x) ν → Sm KM (ch_ μ) ν → vp_in (nI i) 8 ∧ ∃ r, some (Value.int (ν.1 16 (nI i).toNatClampNeg)) = some (.int r) ∧ Pr n 219 [.ref 89, .int (nI i), .int (nI x)] r ν := fun ν hC hS => by
    have hM := hA.2.2.1.km hS
    refine ⟨hv, _, rfl, ent hM ⟨fun q => absurd q z, fun _ => w_219_22 _ _ _ _ (s_184 ⟨fun q => absurd y1 (bI_0.mp q), fun _ => w_219_38 _ _ _ _ ?_⟩)⟩⟩
    rw [show (463 : Int32) + nI i = nI (463 + i) from nI_add 463 i, show (455 : Int32) + nI i = nI (455 + i) from nI_add 455 i, nI_clamp (show 463 + i < 2 ^ 31 by omega), nI_clamp (show 455 + i < 2 ^ 31 by omega), nI_clamp (show i < 2 ^ 31 by omega)]
    have m1 := hM.w (463 + i) x
    refine ⟨vp_in_nI (by omega) (by decide), vp_in_nI (by omega) (by decide), _, rfl, ?_, Rel.fin3 hO hS (Nat.le_succ n) hC ((Sm.rf _ _).si rfl) m1⟩
    rw [m1 _ (by omega)]
    exact hC.2.2.1.tired hi8
  refine ⟨fun e => ?_, fun e => ?_⟩
  · have : x = 1 := (nI_eq (b := 1) (by omega) (by decide)).mp e
    subst this
    exact c_11 i 1 (by decide) (hA.cl (Nat.le_succ n)).ch hi (fun ν hC hS => fin ν hC hS)
  · have : x = 0 := by
      have : ¬ x = 1 := fun q => e (by rw [q]; rfl)
      omega
    subst this
    exact c_11 i 0 (by decide) (hA.cl (Nat.le_succ n)).ch hi (fun ν hC hS => fin ν hC hS)
