/-! ===== set, row ===== -/
theorem rg {a : Int32} {n : Nat} (hn : n < 2 ^ 31) : (0 ≤ a ∧ a ≤ nI n - 1) ↔ ∃ i : Nat, i < n ∧ a = nI i := by
  cases n with
  | zero =>
    refine ⟨fun h => ?_, fun ⟨i, h, _⟩ => by omega⟩
    have h1 := Int32.le_trans h.1 h.2
    exact absurd h1 (by decide +kernel)
  | succ m =>
    rw [nI_pred]
    refine ⟨fun h => ?_, fun ⟨i, hi, e⟩ => by rw [e]; exact nI_in2 (by omega) (by omega)⟩
    obtain ⟨j, hj, e⟩ := in_nI m (by omega) h
    exact ⟨j, by omega, e⟩
theorem s_156 {a b : Int32} {μ : wm_M} {Q : Int32 → wm_M → Prop} (h0 : μ.1 0 9 = -1 → Q 0 (rc_ μ 2)) (h1 : ∀ n : Nat, n ≤ 12 → μ.1 0 9 = nI n → (∀ i : Nat, i < n → ¬ a = nI i) → Q 0 (rc_ μ 3)) (h2 : ∀ n i : Nat, n ≤ 12 → μ.1 0 9 = nI n → i < n → a = nI i → Q (μ.1 85 i) (wm_si μ 85 i b)) (hw : μ.1 0 9 = -1 ∨ ∃ n : Nat, n ≤ 12 ∧ μ.1 0 9 = nI n) : wm_OkI 0 156 [.ref 0, .int a, .int b] μ Q := by
  refine v_156 a b μ _ ⟨fun z => s_162 2 (by decide) ⟨_, rfl, h0 z⟩, fun z => ?_⟩
  obtain ⟨n, hn, e⟩ := hw.resolve_left z
  refine w_156_15 a b μ _ (s_178 ⟨fun y => s_162 3 (by decide) ⟨_, rfl, h1 n hn e (fun i hi q => ?_)⟩, fun y => ?_⟩)
  · rw [e] at y
    exact bI_0.mp y ((rg (by omega)).mpr ⟨i, hi, q⟩)
  · rw [e] at y
    obtain ⟨i, hi, q⟩ := (rg (by omega)).mp (nz y)
    subst q
    have v : vp_in (nI i) 12 := vp_in_nI (by omega) (by decide)
    refine w_156_36 _ b μ _ (v_179_85 _ _ _ _ ⟨v, v, _, rfl, _, rfl, ?_⟩)
    rw [nI_clamp (by omega)]; exact h2 n i hn e hi rfl
theorem s_306 {a b : Int32} {μ : wm_M} {Q : Int32 → wm_M → Prop} (n : Nat) (hn : n ≤ 12) (hw : ¬ μ.1 89 49 = 0 → μ.1 89 48 = nI n) (h0 : μ.1 89 49 = 0 → Q 0 (rm_ μ 2)) (h1 : ¬ μ.1 89 49 = 0 → (∀ i : Nat, i < n → ¬ a = nI i) → Q 0 (rm_ μ 3)) (h2 : ∀ i : Nat, ¬ μ.1 89 49 = 0 → i < n → a = nI i → Q (μ.1 111 i) (wm_si μ 111 i b)) : wm_OkI 0 306 [.ref 89, .int a, .int b] μ Q := by
  refine v_306 a b μ _ ⟨fun z => s_186 2 (by decide) ⟨_, rfl, h0 z⟩, fun z => ?_⟩
  have e := hw z
  refine w_306_14 a b μ _ (s_184 ⟨fun y => s_186 3 (by decide) ⟨_, rfl, h1 z (fun i hi q => ?_)⟩, fun y => ?_⟩)
  · rw [e] at y
    exact bI_0.mp y ((rg (by omega)).mpr ⟨i, hi, q⟩)
  · rw [e] at y
    obtain ⟨i, hi, q⟩ := (rg (by omega)).mp (nz y)
    subst q
    have v : vp_in (nI i) 12 := vp_in_nI (by omega) (by decide)
    refine w_306_35 _ b μ _ ⟨v, v, _, rfl, ?_⟩
    rw [nI_clamp (by omega)]; exact h2 i z hi rfl
theorem s_158 {a : Int32} {μ : wm_M} {Q : Int32 → wm_M → Prop} (h0 : μ.1 0 9 = -1 → Q 0 (rc_ μ 2)) (h1 : ∀ n : Nat, n ≤ 12 → μ.1 0 9 = nI n → (∀ i : Nat, i < n → ¬ a = nI i) → Q 0 (rc_ μ 3)) (h2 : ∀ n i : Nat, n ≤ 12 → μ.1 0 9 = nI n → i < n → a = nI i → Q (μ.1 85 i) μ) (hw : μ.1 0 9 = -1 ∨ ∃ n : Nat, n ≤ 12 ∧ μ.1 0 9 = nI n) : wm_OkI 0 158 [.ref 0, .int a] μ Q := by
  refine v_158 a μ _ ⟨fun z => s_162 2 (by decide) ⟨_, rfl, h0 z⟩, fun z => ?_⟩
  obtain ⟨n, hn, e⟩ := hw.resolve_left z
  refine w_158_15 a μ _ (s_178 ⟨fun y => s_162 3 (by decide) ⟨_, rfl, h1 n hn e (fun i hi q => ?_)⟩, fun y => ?_⟩)
  · rw [e] at y
    exact bI_0.mp y ((rg (by omega)).mpr ⟨i, hi, q⟩)
  · rw [e] at y
    obtain ⟨i, hi, q⟩ := (rg (by omega)).mp (nz y)
    subst q
    refine w_158_36 _ μ _ ⟨vp_in_nI (by omega) (by decide), _, rfl, ?_⟩
    rw [nI_clamp (by omega)]; exact h2 n i hn e hi rfl
theorem s_308 {a : Int32} {μ : wm_M} {Q : Int32 → wm_M → Prop} (n : Nat) (hn : n ≤ 12) (hw : ¬ μ.1 89 49 = 0 → μ.1 89 48 = nI n) (h0 : μ.1 89 49 = 0 → Q 0 (rm_ μ 2)) (h1 : ¬ μ.1 89 49 = 0 → (∀ i : Nat, i < n → ¬ a = nI i) → Q 0 (rm_ μ 3)) (h2 : ∀ i : Nat, ¬ μ.1 89 49 = 0 → i < n → a = nI i → Q (μ.1 111 i) μ) : wm_OkI 0 308 [.ref 89, .int a] μ Q := by
  refine v_308 a μ _ ⟨fun z => s_186 2 (by decide) ⟨_, rfl, h0 z⟩, fun z => ?_⟩
  have e := hw z
  refine w_308_14 a μ _ (s_184 ⟨fun y => w_308_37 μ _ (s_186 3 (by decide) ⟨_, rfl, h1 z (fun i hi q => ?_)⟩), fun y => ?_⟩)
  · rw [e] at y
    exact bI_0.mp y ((rg (by omega)).mpr ⟨i, hi, q⟩)
  · rw [e] at y
    obtain ⟨i, hi, q⟩ := (rg (by omega)).mp (nz y)
    subst q
    refine ⟨vp_in_nI (by omega) (by decide), _, rfl, ?_⟩
    rw [nI_clamp (by omega)]; exact h2 i z hi rfl
