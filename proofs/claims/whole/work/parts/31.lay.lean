/-! ===== lay, status ===== -/
theorem s_155 {a : Int32} {μ : wm_M} {Q : Int32 → wm_M → Prop} (h4 : ¬ 0 ≤ a → Q (-(nI 4)) (rc_ μ 4)) (h7 : 0 ≤ a → ¬ a ≤ nI 12 → Q (-(nI 7)) (rc_ μ 7)) (h : 0 ≤ a → a ≤ nI 12 → Q a (wm_si (wm_sr μ 85 (fl (μ.1 85) 12 0)) 0 9 a)) : wm_OkI 0 155 [.ref 0, .int a] μ Q :=
  v_155 a μ _ ⟨fun z => w_155_11 a μ _ ⟨fun y => w_155_24 a μ _ (s_343_85 0 ⟨_, rfl, h z y⟩), fun y => s_161 7 (by decide) ⟨_, rfl, h7 z y⟩⟩, fun z => s_161 4 (by decide) ⟨_, rfl, h4 z⟩⟩
theorem l_305 (a : Int32) {μ : wm_M} {Q : Int32 → wm_M → Prop} (hq : Q a (wm_si (wm_si (wm_sr μ 111 (fl (μ.1 111) 12 0)) 89 48 a) 89 49 1)) : ∀ k i : Nat, i + k = 12 → wm_Wp 0 305 26 [.ref 89, .int a, .int (nI i)] (wm_sr μ 111 (fl (μ.1 111) i 0)) (fun w ν => ∃ x, w = some (.int x) ∧ Q x ν) := by
  intro k
  induction k with
  | zero =>
    intro i hi
    have e : i = 12 := by omega
    subst e
    exact w_305_26 _ _ _ _ ⟨fun _ => w_305_45 _ _ _ ⟨o01, _, rfl, hq⟩, fun z => absurd (nI_le (Nat.le_refl 12) (by decide)) z⟩
  | succ k ih =>
    intro i hi
    refine w_305_26 _ _ _ _ ⟨fun z => absurd z (nI_ge (a := i) (b := 12) (by omega) (by decide)), fun _ => ⟨vp_in_nI (by omega) (by decide), ?_⟩⟩
    rw [nI_clamp (show i < 2 ^ 31 by omega), si_sr, fl_s, nI_1 i]
    exact ih (i + 1) (by omega)
theorem s_305 {a : Int32} {μ : wm_M} {Q : Int32 → wm_M → Prop} (h4 : ¬ 0 ≤ a → Q (-(nI 4)) (rm_ μ 4)) (h7 : 0 ≤ a → ¬ a ≤ nI 12 → Q (-(nI 7)) (rm_ μ 7)) (h : 0 ≤ a → a ≤ nI 12 → Q a (wm_si (wm_si (wm_sr μ 111 (fl (μ.1 111) 12 0)) 89 48 a) 89 49 1)) : wm_OkI 0 305 [.ref 89, .int a] μ Q := by
  refine v_305 a μ _ ⟨fun z => w_305_11 a μ _ ⟨fun y => w_305_24 a μ _ ?_, fun y => s_185 7 (by decide) ⟨_, rfl, h7 z y⟩⟩, fun z => s_185 4 (by decide) ⟨_, rfl, h4 z⟩⟩
  have g := l_305 a (h z y) 12 0 (by omega)
  rw [fl_0, sr_self] at g
  exact g
theorem neg_in {a : Int32} (h : (-8 : Int32) ≤ a ∧ a ≤ (-2 : Int32)) : ∃ k : Nat, 2 ≤ k ∧ k ≤ 8 ∧ a = -(nI k) := by
  have h1 : ((-8 : Int32)).toInt ≤ a.toInt := Int32.le_iff_toInt_le.mp h.1
  have h2 : a.toInt ≤ ((-2 : Int32)).toInt := Int32.le_iff_toInt_le.mp h.2
  rw [show ((-8 : Int32)).toInt = -8 from by decide +kernel] at h1
  rw [show ((-2 : Int32)).toInt = -2 from by decide +kernel] at h2
  refine ⟨(-a.toInt).toNat, by omega, by omega, Int32.toInt_inj.mp ?_⟩
  rw [sb_negT (by omega)]
  omega
theorem s_160 {a : Int32} {μ : wm_M} {Q : Int32 → wm_M → Prop} (h0 : ¬ ((-8 : Int32) ≤ a ∧ a ≤ (-2 : Int32)) → Q (-(nI 7)) (rc_ μ 7)) (h1 : ∀ k : Nat, 2 ≤ k → k ≤ 8 → a = -(nI k) → Q (μ.1 88 k) μ) : wm_OkI 0 160 [.ref 0, .int a] μ Q := by
  refine v_160 a μ _ (s_178 ⟨fun z => w_160_21 μ _ (s_161 7 (by decide) ⟨_, rfl, h0 (bI_0.mp z)⟩), fun z => ?_⟩)
  obtain ⟨k, k2, k8, rfl⟩ := neg_in (nz z)
  rw [nn_nI, nI_clamp (by omega)]
  exact ⟨vp_in_nI (by omega) (by decide), _, rfl, h1 k k2 k8 rfl⟩
theorem s_310 {a : Int32} {μ : wm_M} {Q : Int32 → wm_M → Prop} (h0 : ¬ ((-8 : Int32) ≤ a ∧ a ≤ (-2 : Int32)) → Q (-(nI 7)) (rm_ μ 7)) (h1 : ∀ k : Nat, 2 ≤ k → k ≤ 8 → a = -(nI k) → Q (μ.1 90 k) μ) : wm_OkI 0 310 [.ref 89, .int a] μ Q := by
  refine v_310 a μ _ (s_184 ⟨fun z => w_310_21 μ _ (s_185 7 (by decide) ⟨_, rfl, h0 (bI_0.mp z)⟩), fun z => ?_⟩)
  obtain ⟨k, k2, k8, rfl⟩ := neg_in (nz z)
  rw [nn_nI, nI_clamp (by omega)]
  exact ⟨vp_in_nI (by omega) (by decide), _, rfl, h1 k k2 k8 rfl⟩
