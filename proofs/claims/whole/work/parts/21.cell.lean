/-! ===== cell ===== -/
def rc_ (μ : wm_M) (k : Nat) : wm_M := wm_si μ 88 k (μ.1 88 k + 1)
def rm_ (μ : wm_M) (k : Nat) : wm_M := wm_si μ 90 k (μ.1 90 k + 1)
theorem in_nI {a : Int32} (n : Nat) (hn : n < 2 ^ 31) (h : 0 ≤ a ∧ a ≤ nI n) : ∃ j : Nat, j ≤ n ∧ a = nI j := nI_of2 (nI_toInt hn) (Int32.not_lt.mpr h.1) h.2
theorem nI_in2 {j n : Nat} (h : j ≤ n) (hn : n < 2 ^ 31) : 0 ≤ nI j ∧ nI j ≤ nI n := ⟨nI_pos' (by omega), nI_le h hn⟩
theorem vn1 : vp_nar .boolean 1 = 1 := by decide +kernel
theorem vn0 : vp_nar .boolean 0 = 0 := by decide +kernel
theorem s_116 {a b c : Int32} {μ : wm_M} {Q : Int32 → wm_M → Prop} (h1 : ¬ (0 ≤ a ∧ a ≤ nI 35) → Q (-(nI 3)) (rc_ μ 3)) (h2 : (0 ≤ a ∧ a ≤ nI 35) → ¬ ((b = 0 ∨ b = 1) ∧ (0 ≤ c ∧ c ≤ nI 90)) → Q (-(nI 7)) (rc_ μ 7))
    (h3 : ∀ j : Nat, j < 36 → a = nI j → (b = 0 ∨ b = 1) → (0 ≤ c ∧ c ≤ nI 90) → Q (bI (¬ μ.1 3 j = 0)) (wm_si (wm_si (ch_ μ) 3 j b) 4 j c)) : wm_OkI 0 116 [.ref 0, .int a, .int b, .int c] μ Q := by
  refine v_116 a b c μ _ (s_167 ⟨fun z => ?_, fun z => ?_⟩)
  · exact s_161 3 (by decide) ⟨_, rfl, h1 (bI_0.mp z)⟩
  · have z := Classical.not_not.mp (fun q => z (bI_0.mpr q))
    refine w_116_14 a b c μ _ (s_176 ⟨fun y => ?_, fun y => s_178 ⟨fun w => ?_, fun w => ?_⟩⟩)
    · exact w_116_31 μ _ (s_161 7 (by decide) ⟨_, rfl, h2 z (fun q => bI_0.mp y q.1)⟩)
    · exact w_116_31 μ _ (s_161 7 (by decide) ⟨_, rfl, h2 z (fun q => bI_0.mp w q.2)⟩)
    · have y := Classical.not_not.mp (fun q => y (bI_0.mpr q))
      have w := Classical.not_not.mp (fun q => w (bI_0.mpr q))
      obtain ⟨j, hj, rfl⟩ := in_nI 35 (by decide) z
      have e1 := nI_clamp (n := j) (by omega)
      have e2 : vp_in (nI j) 36 := vp_in_nI (by omega) (by decide)
      have h4 := h3 j (by omega) rfl y w
      refine w_116_38 _ b c μ _ (s_163 ⟨e2, fun x => ⟨e2, e2, s_177 ⟨_, rfl, ?_⟩⟩, fun x => ⟨e2, e2, s_177 ⟨_, rfl, ?_⟩⟩⟩)
      · subst x; rw [e1, vn1]; exact h4
      · have x : b = 0 := y.resolve_right x
        subst x; rw [e1, vn0]; exact h4
theorem s_193 {a b c : Int32} {μ : wm_M} {Q : Int32 → wm_M → Prop} (h1 : ¬ (0 ≤ a ∧ a ≤ nI 35) → Q (-(nI 3)) (rm_ μ 3)) (h2 : (0 ≤ a ∧ a ≤ nI 35) → ¬ ((0 ≤ b ∧ b ≤ nI 1) ∧ (0 ≤ c ∧ c ≤ nI 90)) → Q (-(nI 7)) (rm_ μ 7))
    (h3 : ∀ j : Nat, j < 36 → a = nI j → (0 ≤ b ∧ b ≤ nI 1) → (0 ≤ c ∧ c ≤ nI 90) → Q (μ.1 91 j) (wm_si (wm_si μ 91 j b) 91 (36 + j) c)) : wm_OkI 0 193 [.ref 89, .int a, .int b, .int c] μ Q := by
  refine v_193 a b c μ _ (s_189 ⟨fun z => ?_, fun z => ?_⟩)
  · exact s_185 3 (by decide) ⟨_, rfl, h1 (bI_0.mp z)⟩
  · have z := Classical.not_not.mp (fun q => z (bI_0.mpr q))
    refine w_193_14 a b c μ _ (s_184 ⟨fun y => ?_, fun y => s_184 ⟨fun w => ?_, fun w => ?_⟩⟩)
    · exact w_193_33 μ _ (s_185 7 (by decide) ⟨_, rfl, h2 z (fun q => bI_0.mp y q.1)⟩)
    · exact w_193_33 μ _ (s_185 7 (by decide) ⟨_, rfl, h2 z (fun q => bI_0.mp w q.2)⟩)
    · have y := Classical.not_not.mp (fun q => y (bI_0.mpr q))
      have w := Classical.not_not.mp (fun q => w (bI_0.mpr q))
      obtain ⟨j, hj, rfl⟩ := in_nI 35 (by decide) z
      have e1 := nI_clamp (n := j) (by omega)
      have e3 := nI_clamp (n := 36 + j) (by omega)
      have e0 : (0 : Int32) + nI j = nI j := Int32.zero_add _
      have e4 : (36 : Int32) + nI j = nI (36 + j) := nI_add 36 j
      refine w_193_40 _ b c μ _ ?_
      rw [e0, e4, e1, e3]
      exact ⟨vp_in_nI (by omega) (by decide), vp_in_nI (by omega) (by decide), vp_in_nI (by omega) (by decide), _, rfl, h3 j (by omega) rfl y w⟩
