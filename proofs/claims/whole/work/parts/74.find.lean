/-! ===== class: the labels ===== -/
def LabC (ℓ : Nat → Nat) (μ : wm_M) : Prop := ∀ s, s < 864 → ℓ s ≤ 999 ∧ μ.1 70 s = nI (ℓ s)
theorem c_108 {ℓ : Nat → Nat} (c t : Nat) (hc : c < 36) (ht : t < 900) {μ : wm_M} {Q : Int32 → wm_M → Prop} (hL : LabC ℓ μ) (h1 : ∀ i, i < 24 → (∀ j, j < i → ℓ (24 * c + j) ≠ t) → ℓ (24 * c + i) = t → Q (nI (24 * c + i)) μ) (h0 : (∀ i, i < 24 → ℓ (24 * c + i) ≠ t) → Q (-1) μ) : wm_OkI 0 108 [.ref 69, .int (nI c), .int (nI t)] μ Q := by
  have lp : ∀ k i, i + k = 24 → (∀ j, j < i → ℓ (24 * c + j) ≠ t) → wm_Wp 0 108 2 [.ref 69, .int (nI c), .int (nI t), .int (nI i), .null] μ (fun w κ => ∃ x, w = some (.int x) ∧ Q x κ) := by
    intro k
    induction k with
    | zero =>
      intro i hi hn
      have : i = 24 := by omega
      subst this
      exact w_108_2 _ _ _ _ _ ⟨fun _ => w_108_36 _ _ ⟨_, rfl, h0 hn⟩, fun q => absurd (nI_le (Nat.le_refl 24) (by decide)) q⟩
    | succ k ih =>
      intro i hi hn
      obtain ⟨l1, l2⟩ := hL (24 * c + i) (by omega)
      refine w_108_2 _ _ _ _ _ ⟨fun q => absurd q (nI_ge (a := i) (b := 24) (by omega) (by decide)), fun _ => ?_⟩
      rw [show (nI c * (24 : Int32)) + nI i = nI (24 * c + i) by rw [show nI c * (24 : Int32) = nI (c * 24) from pk_mul c 24, nI_add, Nat.mul_comm], nI_clamp (show 24 * c + i < 2 ^ 31 by omega), l2]
      refine ⟨vp_in_nI (by omega) (by decide), fun q => ⟨_, rfl, h1 i (by omega) hn ((nI_eq (by omega) (by omega)).mp q)⟩, fun q => w_108_30 _ _ _ _ _ ?_⟩
      rw [nI_1]
      refine ih (i + 1) (by omega) (fun j hj => ?_)
      by_cases e : j = i
      · subst e; exact fun r => q (by rw [r])
      · exact hn j (by omega)
  exact v_108 _ _ _ _ (lp 24 0 rfl (fun j hj => by omega))
theorem eo_none {ℓ : Nat → Nat} {c : Nat} : ∀ i, (∀ j, j < i → ℓ (24 * c + j) = 999) → eo ℓ c i = none
  | 0, _ => rfl
  | i + 1, h => by
    conv => lhs; unfold eo
    rw [if_pos (h i (by omega))]
    exact eo_none i (fun j hj => h j (by omega))
/-- while no label is as small as t, the best so far is worse than t -/
theorem eo_gt {ℓ : Nat → Nat} {c t : Nat} (i : Nat) (h : ∀ j, j < i → t < ℓ (24 * c + j)) {s : Nat} (e : eo ℓ c i = some s) : t < ℓ s := by
  obtain ⟨r1, r2, r3⟩ := eo_in i e
  have := h (s - 24 * c) (by omega)
  rw [show 24 * c + (s - 24 * c) = s by omega] at this
  exact this
theorem eo_first {ℓ : Nat → Nat} {c t i : Nat} (ht : t < 999) (hi : ℓ (24 * c + i) = t) (hb : ∀ j, j < i → t < ℓ (24 * c + j)) : ∀ n, (∀ j, j < i + 1 + n → t ≤ ℓ (24 * c + j)) → eo ℓ c (i + 1 + n) = some (24 * c + i)
  | 0, _ => by
    show eo ℓ c (i + 1) = _
    conv => lhs; unfold eo
    rw [if_neg (by omega)]
    cases ho : eo ℓ c i with
    | none => rfl
    | some s =>
      have := eo_gt i hb ho
      show (if ℓ (24 * c + i) < ℓ s then some (24 * c + i) else some s) = _
      rw [if_pos (by omega)]
  | n + 1, h => by
    have ih := eo_first ht hi hb n (fun j hj => h j (by omega))
    have hl := h (i + 1 + n) (by omega)
    show eo ℓ c ((i + 1 + n) + 1) = _
    conv => lhs; unfold eo
    rw [ih]
    split
    · rfl
    · show (if ℓ (24 * c + (i + 1 + n)) < ℓ (24 * c + i) then some (24 * c + (i + 1 + n)) else some (24 * c + i)) = _
      rw [if_neg (by omega)]
