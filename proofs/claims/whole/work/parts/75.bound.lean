/-! ===== labels known up to a tick ===== -/
theorem at_lt {f : Nat → Nat → Nat} {wh : Nat → Bool} {ch s0 t0 : Nat} : ∀ k t s, AtN f wh ch s0 t0 k t s → t < k ∧ t0 ≤ t ∧ s < 864
  | 0, t, s, h => h.elim
  | k + 1, t, s, h => by
    unfold AtN at h
    rcases h with h | ⟨h1, h2, h3⟩
    · have := at_lt k t s h
      exact ⟨by omega, this.2.1, this.2.2⟩
    · rcases h3 with ⟨a, b⟩ | ⟨a, p, τ, b, c⟩
      · exact ⟨by omega, by omega, h2⟩
      · have := at_lt k τ p b
        exact ⟨by omega, by omega, h2⟩
theorem at_mono {f : Nat → Nat → Nat} {wh : Nat → Bool} {ch s0 t0 : Nat} {k t s : Nat} (h : AtN f wh ch s0 t0 k t s) : ∀ n, AtN f wh ch s0 t0 (k + n) t s
  | 0 => h
  | n + 1 => by
    show AtN f wh ch s0 t0 ((k + n) + 1) t s
    unfold AtN
    exact Or.inl (at_mono h n)
theorem at_down {f : Nat → Nat → Nat} {wh : Nat → Bool} {ch s0 t0 : Nat} {k t s : Nat} (ht : t < k) : ∀ n, AtN f wh ch s0 t0 (k + n) t s → AtN f wh ch s0 t0 k t s
  | 0, h => h
  | n + 1, h => by
    have h : AtN f wh ch s0 t0 ((k + n) + 1) t s := h
    unfold AtN at h
    rcases h with h | ⟨h1, h2, h3⟩
    · exact at_down ht n h
    · omega
theorem at_uniq {f : Nat → Nat → Nat} {wh : Nat → Bool} {ch s0 t0 : Nat} : ∀ k t t' s, AtN f wh ch s0 t0 k t s → AtN f wh ch s0 t0 k t' s → t = t'
  | 0, _, _, _, h, _ => h.elim
  | k + 1, t, t', s, h, g => by
    have no : ∀ t, AtN f wh ch s0 t0 k t s → ¬ ((s = s0 ∧ k = t0) ∨ ((∀ τ, ¬ AtN f wh ch s0 t0 k τ s) ∧ ∃ p τ, AtN f wh ch s0 t0 k τ p ∧ arcP f wh ch p τ s k)) := fun t a b => by
      rcases b with ⟨b1, b2⟩ | ⟨b1, _⟩
      · have := at_lt k t s a; omega
      · exact b1 t a
    unfold AtN at h g
    rcases h with h | ⟨h1, h2, h3⟩
    · rcases g with g | ⟨g1, g2, g3⟩
      · exact at_uniq k t t' s h g
      · subst g1; exact absurd g3 (no t h)
    · rcases g with g | ⟨g1, g2, g3⟩
      · subst h1; exact absurd h3 (no t' g)
      · omega
theorem labF_at {f : Nat → Nat → Nat} {wh : Nat → Bool} {ch s0 t0 t s : Nat} (h : AtN f wh ch s0 t0 121 t s) : labF f wh ch s0 t0 s = t := by
  unfold labF
  split
  · rename_i q
    exact at_uniq 121 _ _ s q.choose_spec h
  · rename_i q
    exact absurd ⟨t, h⟩ q
theorem labF_of {f : Nat → Nat → Nat} {wh : Nat → Bool} {ch s0 t0 s : Nat} (h : labF f wh ch s0 t0 s < 121) : AtN f wh ch s0 t0 121 (labF f wh ch s0 t0 s) s := by
  by_cases q : ∃ t, AtN f wh ch s0 t0 121 t s
  · obtain ⟨t, q⟩ := q
    rw [labF_at q]; exact q
  · unfold labF at h
    rw [dif_neg q] at h
    omega
