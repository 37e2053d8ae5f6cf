/-! ===== rival ===== -/
theorem s_143 {a b c : Int32} {μ : wm_M} {Q : Int32 → wm_M → Prop} (h1 : ¬ (ir 5 a ∧ ir 5 b) → Q (-(nI 3)) (rc_ μ 3)) (h2 : ir 5 a → ir 5 b → ¬ ir 999 c → Q (-(nI 7)) (rc_ μ 7))
    (h3 : ∀ i j : Nat, i ≤ 5 → j ≤ 5 → a = nI i → b = nI j → ir 999 c → Q (μ.1 29 (j * 6 + i)) (wm_si (ch_ μ) 29 (j * 6 + i) c)) : wm_OkI 0 143 [.ref 0, .int a, .int b, .int c] μ Q := by
  refine v_143 a b c μ _ (s_178 ⟨fun z => w_143_16 μ _ (s_161 3 (by decide) ⟨_, rfl, h1 (fun q => bI_0.mp z q.1)⟩), fun z => s_170 ⟨fun y => w_143_16 μ _ (s_161 3 (by decide) ⟨_, rfl, h1 (fun q => bI_0.mp y q.2)⟩), fun y => w_143_23 a b c μ _ (s_178 ⟨fun x => s_161 7 (by decide) ⟨_, rfl, h2 (nz z) (nz y) (bI_0.mp x)⟩, fun x => ?_⟩)⟩⟩)
  obtain ⟨i, hi, rfl⟩ := in_nI 5 (by decide) (nz z)
  obtain ⟨j, hj, rfl⟩ := in_nI 5 (by decide) (nz y)
  refine w_143_41 _ _ c μ _ (s_163 ?_)
  rw [show (nI j * (6 : Int32)) + nI i = nI (j * 6 + i) from ix2' 6 j i]
  have v : vp_in (nI (j * 6 + i)) 36 := vp_in_nI (by omega) (by decide)
  refine v_179_29 _ _ _ _ ⟨v, v, _, rfl, _, rfl, ?_⟩
  rw [nI_clamp (by omega)]; exact h3 i j hi hj rfl rfl (nz x)
theorem s_280 {a b c : Int32} {μ : wm_M} {Q : Int32 → wm_M → Prop} (h1 : ¬ (ir 5 a ∧ ir 5 b) → Q (-(nI 3)) (rm_ μ 3)) (h2 : ir 5 a → ir 5 b → ¬ ir 999 c → Q (-(nI 7)) (rm_ μ 7))
    (h3 : ∀ i j : Nat, i ≤ 5 → j ≤ 5 → a = nI i → b = nI j → ir 999 c → Q (μ.1 91 (2004 + 6 * i + j)) (wm_si μ 91 (2004 + 6 * i + j) c)) : wm_OkI 0 280 [.ref 89, .int a, .int b, .int c] μ Q := by
  refine v_280 a b c μ _ (s_184 ⟨fun z => w_280_16 μ _ (s_185 3 (by decide) ⟨_, rfl, h1 (fun q => bI_0.mp z q.1)⟩), fun z => s_262 ⟨fun y => w_280_16 μ _ (s_185 3 (by decide) ⟨_, rfl, h1 (fun q => bI_0.mp y q.2)⟩), fun y => w_280_23 a b c μ _ (s_184 ⟨fun x => s_185 7 (by decide) ⟨_, rfl, h2 (nz z) (nz y) (bI_0.mp x)⟩, fun x => ?_⟩)⟩⟩)
  obtain ⟨i, hi, rfl⟩ := in_nI 5 (by decide) (nz z)
  obtain ⟨j, hj, rfl⟩ := in_nI 5 (by decide) (nz y)
  refine w_280_41 _ _ c μ _ ?_
  rw [show ((2004 : Int32) + ((6 : Int32) * nI i)) + nI j = nI (2004 + 6 * i + j) from ix3' 2004 6 i j, nI_clamp (by omega)]
  have v : vp_in (nI (2004 + 6 * i + j)) 2060 := vp_in_nI (by omega) (by decide)
  exact ⟨v, v, _, rfl, h3 i j hi hj rfl rfl (nz x)⟩
