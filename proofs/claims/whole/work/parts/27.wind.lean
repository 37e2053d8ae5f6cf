/-! ===== wind ===== -/
theorem s_117 {a b c : Int32} {μ : wm_M} {Q : Int32 → wm_M → Prop} (h1 : (∀ n : Nat, n < 2 ^ 31 → a = nI n → ¬ (n / 10 < 12 ∧ n % 10 < 7)) → Q (-(nI 3)) (rc_ μ 3))
    (h2 : ∀ n : Nat, n < 2 ^ 31 → a = nI n → n / 10 < 12 → n % 10 < 7 → ¬ ((0 ≤ b ∧ b ≤ nI 7) ∧ (0 ≤ c ∧ c ≤ nI 39)) → Q (-(nI 7)) (rc_ μ 7))
    (h3 : ∀ n : Nat, n < 2 ^ 31 → a = nI n → n / 10 < 12 → n % 10 < 7 → (0 ≤ b ∧ b ≤ nI 7) → (0 ≤ c ∧ c ≤ nI 39) → Q (μ.1 6 (n % 10 * 12 + n / 10)) (wm_si (wm_si (ch_ μ) 5 (n % 10 * 12 + n / 10) b) 6 (n % 10 * 12 + n / 10) c)) : wm_OkI 0 117 [.ref 0, .int a, .int b, .int c] μ Q := by
  refine v_117 a b c μ _ (s_171 (fun n hn e g1 g2 => ⟨fun z => absurd z (by decide), fun _ => ?_⟩) (fun z => ⟨fun _ => s_161 3 (by decide) ⟨_, rfl, h1 z⟩, fun y => absurd rfl y⟩))
  refine w_117_14 a b c μ _ (s_178 ⟨fun y => w_117_34 μ _ (s_161 7 (by decide) ⟨_, rfl, h2 n hn e g1 g2 (fun q => bI_0.mp y q.1)⟩), fun y => s_178 ⟨fun w => w_117_34 μ _ (s_161 7 (by decide) ⟨_, rfl, h2 n hn e g1 g2 (fun q => bI_0.mp w q.2)⟩), fun w => ?_⟩⟩)
  have h4 := h3 n hn e g1 g2 (nz y) (nz w)
  subst e
  have e5 : ((nI n - nI n / (10 : Int32) * (10 : Int32)) * (12 : Int32)) + (nI n / (10 : Int32)) = nI (n % 10 * 12 + n / 10) := by rw [rm10 hn, dv10 hn]; exact ix2 (n % 10) (n / 10)
  refine w_117_41 _ b c μ _ (s_163 ?_)
  rw [e5, nI_clamp (by omega)]
  have e6 : vp_in (nI (n % 10 * 12 + n / 10)) 84 := vp_in_nI (by omega) (by decide)
  exact ⟨n10, n10, e6, e6, e6, _, rfl, h4⟩
theorem s_196 {a b c : Int32} {μ : wm_M} {Q : Int32 → wm_M → Prop} (h1 : (∀ n : Nat, n < 2 ^ 31 → a = nI n → ¬ (n / 10 < 12 ∧ n % 10 < 7)) → Q (-(nI 3)) (rm_ μ 3))
    (h2 : ∀ n : Nat, n < 2 ^ 31 → a = nI n → n / 10 < 12 → n % 10 < 7 → ¬ ((0 ≤ b ∧ b ≤ nI 7) ∧ (0 ≤ c ∧ c ≤ nI 39)) → Q (-(nI 7)) (rm_ μ 7))
    (h3 : ∀ n : Nat, n < 2 ^ 31 → a = nI n → n / 10 < 12 → n % 10 < 7 → (0 ≤ b ∧ b ≤ nI 7) → (0 ≤ c ∧ c ≤ nI 39) → Q (if μ.1 91 (240 + (12 * (n % 10) + n / 10)) = 1 then μ.1 91 (156 + (12 * (n % 10) + n / 10)) else -1) (wm_si (wm_si (wm_si μ 91 (72 + (12 * (n % 10) + n / 10)) b) 91 (156 + (12 * (n % 10) + n / 10)) c) 91 (240 + (12 * (n % 10) + n / 10)) 1)) : wm_OkI 0 196 [.ref 89, .int a, .int b, .int c] μ Q := by
  refine v_196 a b c μ _ (s_194 (fun n hn e g1 g2 => ⟨fun z => absurd z (by decide), fun _ => ?_⟩) (fun z => ⟨fun _ => s_185 3 (by decide) ⟨_, rfl, h1 z⟩, fun y => absurd rfl y⟩))
  refine w_196_14 a b c μ _ (s_184 ⟨fun y => w_196_34 μ _ (s_185 7 (by decide) ⟨_, rfl, h2 n hn e g1 g2 (fun q => bI_0.mp y q.1)⟩), fun y => s_184 ⟨fun w => w_196_34 μ _ (s_185 7 (by decide) ⟨_, rfl, h2 n hn e g1 g2 (fun q => bI_0.mp w q.2)⟩), fun w => ?_⟩⟩)
  have h4 := h3 n hn e g1 g2 (nz y) (nz w)
  subst e
  refine w_196_41 _ b c μ _ (s_195 n hn ?_)
  generalize hp : 12 * (n % 10) + n / 10 = p at h4
  have hp2 : p < 84 := by omega
  have a1 : (240 : Int32) + nI p = nI (240 + p) := nI_add 240 p
  have a2 : (156 : Int32) + nI p = nI (156 + p) := nI_add 156 p
  have a3 : (72 : Int32) + nI p = nI (72 + p) := nI_add 72 p
  have c1 := nI_clamp (n := 240 + p) (by omega)
  have c2 := nI_clamp (n := 156 + p) (by omega)
  have c3 := nI_clamp (n := 72 + p) (by omega)
  have v1 : vp_in (nI (240 + p)) 2060 := vp_in_nI (by omega) (by decide)
  have v2 : vp_in (nI (156 + p)) 2060 := vp_in_nI (by omega) (by decide)
  have v3 : vp_in (nI (72 + p)) 2060 := vp_in_nI (by omega) (by decide)
  rw [a1, a2, a3, c1, c2, c3]
  refine ⟨v1, fun z => ⟨v2, v3, v2, v1, _, rfl, ?_⟩, fun z => w_196_76 b c (nI p) μ _ ?_⟩
  · rw [if_pos z] at h4; exact h4
  · rw [a1, a2, a3, c1, c2, c3]
    rw [if_neg z] at h4
    exact ⟨v3, v2, v1, _, rfl, h4⟩
