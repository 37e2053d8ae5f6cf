/-! ===== mark, telling, choice, group, wipe, tear ===== -/
theorem nz {p : Prop} [Decidable p] (h : ¬ bI p = 0) : p := Classical.not_not.mp (fun q => h (bI_0.mpr q))
theorem s_119 {a : Int32} {μ : wm_M} {Q : Int32 → wm_M → Prop} (h1 : ¬ (0 ≤ a ∧ a ≤ nI 35) → Q (-(nI 3)) (rc_ μ 3)) (h2 : (0 ≤ a ∧ a ≤ nI 35) → Q (μ.1 2 4) (wm_si (ch_ μ) 2 4 a)) : wm_OkI 0 119 [.ref 0, .int a] μ Q :=
  v_119 a μ _ (s_167 ⟨fun z => s_161 3 (by decide) ⟨_, rfl, h1 (bI_0.mp z)⟩, fun z => w_119_14 a μ _ (s_163 ⟨_, rfl, h2 (nz z)⟩)⟩)
theorem s_202 {a : Int32} {μ : wm_M} {Q : Int32 → wm_M → Prop} (h1 : ¬ (0 ≤ a ∧ a ≤ nI 35) → Q (-(nI 3)) (rm_ μ 3)) (h2 : (0 ≤ a ∧ a ≤ nI 35) → Q (μ.1 91 2045) (wm_si μ 91 2045 a)) : wm_OkI 0 202 [.ref 89, .int a] μ Q :=
  v_202 a μ _ (s_189 ⟨fun z => s_185 3 (by decide) ⟨_, rfl, h1 (bI_0.mp z)⟩, fun z => w_202_14 a μ _ (s_188 5 (by decide) ⟨vp_in_nI (n := 2045) (by decide) (by decide), _, rfl, by rw [show ((2045 : Int32)).toNatClampNeg = 2045 from by decide +kernel]; exact h2 (nz z)⟩)⟩)
theorem s_130 {μ : wm_M} {Q : Int32 → wm_M → Prop} (h : Q (μ.1 59 1) (wm_si μ 59 1 0)) : wm_OkI 0 130 [.ref 0] μ Q := v_130 μ _ ⟨_, rfl, h⟩
theorem s_224 {μ : wm_M} {Q : Int32 → wm_M → Prop} (h : Q (μ.1 89 4) (wm_si μ 89 4 0)) : wm_OkI 0 224 [.ref 89] μ Q := v_224 μ _ ⟨_, rfl, h⟩
theorem s_157 {μ : wm_M} {Q : Int32 → wm_M → Prop} (h : Q (bI (¬ μ.1 0 9 = -1)) (wm_si μ 0 9 (-1))) : wm_OkI 0 157 [.ref 0] μ Q := by
  refine v_157 μ _ ⟨fun z => w_157_12 μ _ (s_177 ⟨_, rfl, ?_⟩), fun z => s_177 ⟨_, rfl, ?_⟩⟩
  · rw [bI_f (fun q => q z)] at h; rw [bI_f (fun q => q rfl)]; exact h
  · rw [bI_t z] at h; rw [bI_t (by decide)]; exact h
theorem s_307 {μ : wm_M} {Q : Int32 → wm_M → Prop} (h : Q (bI (¬ μ.1 89 49 = 0)) (wm_si μ 89 49 0)) : wm_OkI 0 307 [.ref 89] μ Q := by
  refine v_307 μ _ ⟨fun z => w_307_11 μ _ ⟨z01, _, rfl, ?_⟩, fun z => ⟨z01, _, rfl, ?_⟩⟩
  · rw [bI_f (fun q => q z)] at h; exact h
  · rw [bI_t z] at h; exact h
theorem s_136 {a b : Int32} {μ : wm_M} {Q : Int32 → wm_M → Prop} (h1 : ¬ ((0 ≤ a ∧ a ≤ nI 120) ∧ (0 ≤ b ∧ b ≤ nI 120) ∧ a ≤ b) → Q (-(nI 7)) (rc_ μ 7)) (h2 : (0 ≤ a ∧ a ≤ nI 120) ∧ (0 ≤ b ∧ b ≤ nI 120) ∧ a ≤ b → Q (μ.1 1 4) (wm_si (wm_si (ch_ μ) 1 4 a) 1 5 b)) : wm_OkI 0 136 [.ref 0, .int a, .int b] μ Q :=
  v_136 a b μ _ (s_175 ⟨fun z => w_136_19 μ _ (s_161 7 (by decide) ⟨_, rfl, h1 (fun q => bI_0.mp z q.1)⟩), fun z => s_175 ⟨fun y => w_136_19 μ _ (s_161 7 (by decide) ⟨_, rfl, h1 (fun q => bI_0.mp y q.2.1)⟩), fun y => ⟨fun x => w_136_26 a b μ _ (s_163 ⟨_, rfl, h2 ⟨nz z, nz y, x⟩⟩), fun x => w_136_19 μ _ (s_161 7 (by decide) ⟨_, rfl, h1 (fun q => x q.2.2)⟩)⟩⟩⟩)
theorem s_263 {a b : Int32} {μ : wm_M} {Q : Int32 → wm_M → Prop} (h1 : ¬ ((0 ≤ a ∧ a ≤ nI 120) ∧ (a ≤ b ∧ b ≤ nI 120)) → Q (-(nI 7)) (rm_ μ 7)) (h2 : (0 ≤ a ∧ a ≤ nI 120) ∧ (a ≤ b ∧ b ≤ nI 120) → Q (μ.1 91 2043) (wm_si (wm_si μ 91 2043 a) 91 2044 b)) : wm_OkI 0 263 [.ref 89, .int a, .int b] μ Q :=
  v_263 a b μ _ (s_184 ⟨fun z => w_263_20 μ _ (s_185 7 (by decide) ⟨_, rfl, h1 (fun q => bI_0.mp z q.1)⟩), fun z => s_184 ⟨fun y => w_263_20 μ _ (s_185 7 (by decide) ⟨_, rfl, h1 (fun q => bI_0.mp y q.2)⟩), fun y => w_263_27 a b μ _ (s_188 3 (by decide) ⟨vp_in_nI (n := 2043) (by decide) (by decide), vp_in_nI (n := 2044) (by decide) (by decide), _, rfl, by rw [show ((2043 : Int32)).toNatClampNeg = 2043 from by decide +kernel, show ((2044 : Int32)).toNatClampNeg = 2044 from by decide +kernel]; exact h2 ⟨nz z, nz y⟩⟩)⟩⟩)
