/-! ===== labels below a tick are those that the whole search would give ===== -/
def LowLab (f : Nat → Nat → Nat) (wh : Nat → Bool) (ch s0 t0 : Nat) (ℓ : Nat → Nat) (K : Nat) : Prop := ℓ s0 = t0 ∧ (∀ s, s < 864 → ℓ s < K → s ≠ s0 → ∃ p, p < 864 ∧ ℓ p < ℓ s ∧ arcP f wh ch p (ℓ p) s (ℓ s)) ∧ (∀ p s t, p < 864 → s < 864 → ℓ p < t → t < K → arcP f wh ch p (ℓ p) s t → ℓ s ≤ t)
theorem low_at {f : Nat → Nat → Nat} {wh : Nat → Bool} {ch s0 t0 K : Nat} {ℓ : Nat → Nat} (h : LowLab f wh ch s0 t0 ℓ K) : ∀ k, k ≤ K → ∀ t s, AtN f wh ch s0 t0 k t s ↔ (s < 864 ∧ ℓ s = t ∧ t < k)
  | 0, _, t, s => ⟨fun q => q.elim, fun q => absurd q.2.2 (Nat.not_lt_zero t)⟩
  | k + 1, hk, t, s => by
    have ih := low_at h k (by omega)
    obtain ⟨h1, h2, h3⟩ := h
    unfold AtN
    constructor
    · rintro (q | ⟨q1, q2, q3⟩)
      · have := (ih t s).mp q
        exact ⟨this.1, this.2.1, by omega⟩
      · subst q1
        refine ⟨q2, ?_, Nat.lt_succ_self t⟩
        rcases q3 with ⟨r1, r2⟩ | ⟨r1, p, τ, r2, r3⟩
        · rw [r1, h1, r2]
        · obtain ⟨a, b, c⟩ := (ih τ p).mp r2
          subst b
          have g := h3 p s t a q2 c (by omega) r3
          by_cases e : ℓ s = t
          · exact e
          · exact absurd ((ih (ℓ s) s).mpr ⟨q2, rfl, by omega⟩) (r1 _)
    · rintro ⟨q1, q2, q3⟩
      by_cases e : t < k
      · exact Or.inl ((ih t s).mpr ⟨q1, q2, e⟩)
      · have e : t = k := by omega
        refine Or.inr ⟨e, q1, ?_⟩
        by_cases e0 : s = s0
        · exact Or.inl ⟨e0, by rw [← q2, e0, h1]⟩
        · obtain ⟨p, a, b, c⟩ := h2 s q1 (by omega) e0
          refine Or.inr ⟨fun τ r => ?_, p, ℓ p, (ih _ _).mpr ⟨a, rfl, by omega⟩, by rw [← q2]; exact c⟩
          have := (ih τ s).mp r
          omega
theorem low_eq {f : Nat → Nat → Nat} {wh : Nat → Bool} {ch s0 t0 K : Nat} {ℓ : Nat → Nat} (h : LowLab f wh ch s0 t0 ℓ K) (hK : K ≤ 121) {s : Nat} (hs : s < 864) (hl : ℓ s < K) : labF f wh ch s0 t0 s = ℓ s := by
  have a := at_mono ((low_at h K (Nat.le_refl K) (ℓ s) s).mpr ⟨hs, rfl, hl⟩) (121 - K)
  rw [show K + (121 - K) = 121 by omega] at a
  exact labF_at a
theorem low_ge {f : Nat → Nat → Nat} {wh : Nat → Bool} {ch s0 t0 K : Nat} {ℓ : Nat → Nat} (h : LowLab f wh ch s0 t0 ℓ K) (hK : K ≤ 121) {s : Nat} (hl : K ≤ ℓ s) : K ≤ labF f wh ch s0 t0 s := by
  refine Nat.le_of_not_lt (fun q => ?_)
  have a := labF_of (f := f) (wh := wh) (ch := ch) (s0 := s0) (t0 := t0) (s := s) (by omega)
  rw [show 121 = K + (121 - K) by omega] at a
  have b := (low_at h K (Nat.le_refl K) _ s).mp (at_down q (121 - K) a)
  omega
