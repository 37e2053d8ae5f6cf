/-! ===== speed, choice, group, rival ===== -/
abbrev ir (n : Nat) (a : Int32) : Prop := 0 ≤ a ∧ a ≤ nI n
theorem s_262 {a : Int32} {μ : wm_M} {Q : Int32 → wm_M → Prop} (h : Q (bI (0 ≤ a ∧ a ≤ 5)) μ) : wm_OkI 0 262 [.int a] μ Q := v_262 a μ _ (s_184 ⟨bI_01, _, rfl, h⟩)
theorem s_203 {a b : Int32} {μ : wm_M} {Q : Int32 → wm_M → Prop} (h1 : ir 4 a → ir 4 b → Q 1 μ) (h0 : ¬ (ir 4 a ∧ ir 4 b) → Q 0 μ) : wm_OkI 0 203 [.int a, .int b] μ Q :=
  v_203 a b μ _ (s_184 ⟨fun z => w_203_22 μ _ ⟨z01, _, rfl, h0 (fun q => bI_0.mp z q.1)⟩, fun z => s_184 ⟨fun y => w_203_22 μ _ ⟨z01, _, rfl, h0 (fun q => bI_0.mp y q.2)⟩, fun y => ⟨o01, _, rfl, h1 (nz z) (nz y)⟩⟩⟩)
theorem ix3' (c d w h : Nat) : (nI c + nI d * nI w) + nI h = nI (c + d * w + h) := by rw [pk_mul, nI_add, nI_add]
theorem ix2' (d w h : Nat) : nI w * nI d + nI h = nI (w * d + h) := by rw [pk_mul, nI_add]
theorem s_120 {a b c : Int32} {μ : wm_M} {Q : Int32 → wm_M → Prop} (h1 : ¬ (ir 4 a ∧ ir 4 b) → Q (-(nI 3)) (rc_ μ 3)) (h2 : ir 4 a → ir 4 b → ¬ ir 99 c → Q (-(nI 7)) (rc_ μ 7))
    (h3 : ∀ i j : Nat, i ≤ 4 → j ≤ 4 → a = nI i → b = nI j → ir 99 c → Q (μ.1 8 (i * 5 + j)) (wm_si (ch_ μ) 8 (i * 5 + j) c)) : wm_OkI 0 120 [.ref 0, .int a, .int b, .int c] μ Q := by
  refine v_120 a b c μ _ (s_172 ⟨fun z => w_120_14 μ _ (s_161 3 (by decide) ⟨_, rfl, h1 (fun q => bI_0.mp z q.1)⟩), fun z => s_173 ⟨fun y => w_120_14 μ _ (s_161 3 (by decide) ⟨_, rfl, h1 (fun q => bI_0.mp y q.2)⟩), fun y => w_120_21 a b c μ _ (s_174 ⟨fun x => s_161 7 (by decide) ⟨_, rfl, h2 (nz z) (nz y) (bI_0.mp x)⟩, fun x => ?_⟩)⟩⟩)
  obtain ⟨i, hi, rfl⟩ := in_nI 4 (by decide) (nz z)
  obtain ⟨j, hj, rfl⟩ := in_nI 4 (by decide) (nz y)
  refine w_120_35 _ _ c μ _ (s_163 ?_)
  rw [show (nI i * (5 : Int32)) + nI j = nI (i * 5 + j) from ix2' 5 i j, nI_clamp (by omega)]
  have v : vp_in (nI (i * 5 + j)) 25 := vp_in_nI (by omega) (by decide)
  exact ⟨v, v, _, rfl, h3 i j hi hj rfl rfl (nz x)⟩
theorem s_204 {a b c : Int32} {μ : wm_M} {Q : Int32 → wm_M → Prop} (h1 : ¬ (ir 4 a ∧ ir 4 b) → Q (-(nI 3)) (rm_ μ 3)) (h2 : ir 4 a → ir 4 b → ¬ ir 99 c → Q (-(nI 7)) (rm_ μ 7))
    (h3 : ∀ i j : Nat, i ≤ 4 → j ≤ 4 → a = nI i → b = nI j → ir 99 c → Q (μ.1 91 (324 + 5 * i + j)) (wm_si μ 91 (324 + 5 * i + j) c)) : wm_OkI 0 204 [.ref 89, .int a, .int b, .int c] μ Q := by
  refine v_204 a b c μ _ (s_203 (fun z y => ⟨fun q => absurd q (by decide), fun _ => w_204_15 a b c μ _ (s_184 ⟨fun x => s_185 7 (by decide) ⟨_, rfl, h2 z y (bI_0.mp x)⟩, fun x => ?_⟩)⟩) (fun z => ⟨fun _ => s_185 3 (by decide) ⟨_, rfl, h1 z⟩, fun q => absurd rfl q⟩))
  obtain ⟨i, hi, rfl⟩ := in_nI 4 (by decide) z
  obtain ⟨j, hj, rfl⟩ := in_nI 4 (by decide) y
  refine w_204_32 _ _ c μ _ ?_
  rw [show ((324 : Int32) + ((5 : Int32) * nI i)) + nI j = nI (324 + 5 * i + j) from ix3' 324 5 i j, nI_clamp (by omega)]
  have v : vp_in (nI (324 + 5 * i + j)) 2060 := vp_in_nI (by omega) (by decide)
  exact ⟨v, v, _, rfl, h3 i j hi hj rfl rfl (nz x)⟩
theorem s_137 {a b : Int32} {μ : wm_M} {Q : Int32 → wm_M → Prop} (h1 : ¬ (ir 2 a ∧ ir 35 b) → Q (-(nI 3)) (rc_ μ 3)) (h3 : ∀ i : Nat, i ≤ 2 → a = nI i → ir 35 b → Q (μ.1 27 i) (wm_si (ch_ μ) 27 i b)) : wm_OkI 0 137 [.ref 0, .int a, .int b] μ Q := by
  refine v_137 a b μ _ (s_178 ⟨fun z => w_137_16 μ _ (s_161 3 (by decide) ⟨_, rfl, h1 (fun q => bI_0.mp z q.1)⟩), fun z => s_167 ⟨fun y => w_137_16 μ _ (s_161 3 (by decide) ⟨_, rfl, h1 (fun q => bI_0.mp y q.2)⟩), fun y => ?_⟩⟩)
  obtain ⟨i, hi, rfl⟩ := in_nI 2 (by decide) (nz z)
  have v : vp_in (nI i) 3 := vp_in_nI (by omega) (by decide)
  refine w_137_23 _ b μ _ (s_163 (v_179_27 _ _ _ _ ⟨v, v, _, rfl, _, rfl, ?_⟩))
  rw [nI_clamp (by omega)]; exact h3 i hi rfl (nz y)
theorem s_264 {a b : Int32} {μ : wm_M} {Q : Int32 → wm_M → Prop} (h1 : ¬ (ir 2 a ∧ ir 35 b) → Q (-(nI 3)) (rm_ μ 3)) (h3 : ∀ i : Nat, i ≤ 2 → a = nI i → ir 35 b → Q (μ.1 91 (2001 + i)) (wm_si μ 91 (2001 + i) b)) : wm_OkI 0 264 [.ref 89, .int a, .int b] μ Q := by
  refine v_264 a b μ _ (s_184 ⟨fun z => w_264_16 μ _ (s_185 3 (by decide) ⟨_, rfl, h1 (fun q => bI_0.mp z q.1)⟩), fun z => s_189 ⟨fun y => w_264_16 μ _ (s_185 3 (by decide) ⟨_, rfl, h1 (fun q => bI_0.mp y q.2)⟩), fun y => ?_⟩⟩)
  obtain ⟨i, hi, rfl⟩ := in_nI 2 (by decide) (nz z)
  refine w_264_23 _ b μ _ ?_
  rw [show (2001 : Int32) + nI i = nI (2001 + i) from nI_add 2001 i, nI_clamp (by omega)]
  have v : vp_in (nI (2001 + i)) 2060 := vp_in_nI (by omega) (by decide)
  exact ⟨v, v, _, rfl, h3 i hi rfl (nz y)⟩
theorem s_138 {a b : Int32} {μ : wm_M} {Q : Int32 → wm_M → Prop} (h1 : ¬ ir 5 a → Q (-(nI 3)) (rc_ μ 3)) (h2 : ir 5 a → ¬ ir 2 b → Q (-(nI 7)) (rc_ μ 7)) (h3 : ∀ i : Nat, i ≤ 5 → a = nI i → ir 2 b → Q (μ.1 28 i) (wm_si (ch_ μ) 28 i b)) : wm_OkI 0 138 [.ref 0, .int a, .int b] μ Q := by
  refine v_138 a b μ _ (s_170 ⟨fun z => s_161 3 (by decide) ⟨_, rfl, h1 (bI_0.mp z)⟩, fun z => w_138_14 a b μ _ (s_178 ⟨fun y => s_161 7 (by decide) ⟨_, rfl, h2 (nz z) (bI_0.mp y)⟩, fun y => ?_⟩)⟩)
  obtain ⟨i, hi, rfl⟩ := in_nI 5 (by decide) (nz z)
  have v : vp_in (nI i) 6 := vp_in_nI (by omega) (by decide)
  refine w_138_30 _ b μ _ (s_163 (v_179_28 _ _ _ _ ⟨v, v, _, rfl, _, rfl, ?_⟩))
  rw [nI_clamp (by omega)]; exact h3 i hi rfl (nz y)
theorem s_265 {a b : Int32} {μ : wm_M} {Q : Int32 → wm_M → Prop} (h1 : ¬ ir 5 a → Q (-(nI 3)) (rm_ μ 3)) (h2 : ir 5 a → ¬ ir 2 b → Q (-(nI 7)) (rm_ μ 7)) (h3 : ∀ i : Nat, i ≤ 5 → a = nI i → ir 2 b → Q (μ.1 91 (1995 + i)) (wm_si μ 91 (1995 + i) b)) : wm_OkI 0 265 [.ref 89, .int a, .int b] μ Q := by
  refine v_265 a b μ _ (s_262 ⟨fun z => s_185 3 (by decide) ⟨_, rfl, h1 (bI_0.mp z)⟩, fun z => w_265_14 a b μ _ (s_184 ⟨fun y => s_185 7 (by decide) ⟨_, rfl, h2 (nz z) (bI_0.mp y)⟩, fun y => ?_⟩)⟩)
  obtain ⟨i, hi, rfl⟩ := in_nI 5 (by decide) (nz z)
  refine w_265_30 _ b μ _ ?_
  rw [show (1995 : Int32) + nI i = nI (1995 + i) from nI_add 1995 i, nI_clamp (by omega)]
  have v : vp_in (nI (1995 + i)) 2060 := vp_in_nI (by omega) (by decide)
  exact ⟨v, v, _, rfl, h3 i hi rfl (nz y)⟩
