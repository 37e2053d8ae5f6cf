/-! ===== plans: pure ===== -/
noncomputable def lst (P : Nat → Prop) : Nat → Nat
  | 0 => 0
  | k + 1 => if lst P k < k then lst P k else @ite Nat (P k) (Classical.propDecidable _) k (k + 1)
theorem lst_ok (P : Nat → Prop) : ∀ k, lst P k ≤ k ∧ (lst P k < k → P (lst P k)) ∧ ∀ q, q < lst P k → ¬ P q
  | 0 => ⟨Nat.le_refl _, fun q => absurd q (Nat.lt_irrefl _), fun q h => absurd h (Nat.not_lt_zero q)⟩
  | k + 1 => by
    obtain ⟨h1, h2, h3⟩ := lst_ok P k
    unfold lst
    by_cases e : lst P k < k
    · rw [if_pos e]
      exact ⟨by omega, fun _ => h2 e, h3⟩
    · rw [if_neg e]
      have e : lst P k = k := by omega
      rw [e] at h3
      by_cases p : P k
      · rw [if_pos p]
        exact ⟨by omega, fun _ => p, h3⟩
      · rw [if_neg p]
        refine ⟨Nat.le_refl _, fun q => absurd q (Nat.lt_irrefl _), fun q h => ?_⟩
        by_cases z : q = k
        · rw [z]; exact p
        · exact h3 q (by omega)
theorem lst_eq {P : Nat → Prop} {n m : Nat} (hm : m < n) (h : P m) (hq : ∀ q, q < n → P q → m ≤ q) : lst P n = m := by
  obtain ⟨h1, h2, h3⟩ := lst_ok P n
  by_cases e : lst P n < n
  · have := hq _ e (h2 e)
    by_cases e2 : m < lst P n
    · exact absurd h (h3 m e2)
    · omega
  · exact absurd h (h3 m (by omega))
theorem lst_lt {P : Nat → Prop} {n m : Nat} (hm : m < n) (h : P m) : lst P n < n := by
  obtain ⟨h1, h2, h3⟩ := lst_ok P n
  refine Nat.lt_of_not_le (fun q => ?_)
  exact h3 m (by omega) h
theorem ap_sym : ∀ a, a < 8 → ∀ b, b < 8 → ap a b = ap b a := by decide +kernel
theorem bs_ne : ∀ c, c < 36 → ∀ h, h < 8 → bsA c h ≠ c := by decide +kernel
theorem bs_inv : ∀ c, c < 36 → ∀ h, h < 8 → ∀ p, p < 36 → (bsA p h = c ↔ bsA c ((h + 4) % 8) = p) := by decide +kernel
theorem st_eq {p s : Nat} (h1 : p / 24 = s / 24) (h2 : p / 3 % 8 = s / 3 % 8) (h3 : p % 3 = s % 3) : p = s := by
  rw [← st_un p, ← st_un s, h1, h2, h3]
theorem arc_lt {f : Nat → Nat → Nat} {wh : Nat → Bool} {ch p τ s t : Nat} (hc0 : 0 < ch) (h : arcP f wh ch p τ s t) : τ < t := by
  rcases h with ⟨a1, a2, a3, a4⟩ | ⟨a1, a2, a3, a4, a5⟩ | ⟨a1, a2, a3, b, b1, b2, b3, b4⟩
  · have := ap_pos (s / 3 % 8) (by omega) (p / 3 % 8) (by omega) (fun q => a3 (st_eq a1 q.symm a2))
    omega
  · omega
  · omega
def ExE (f : Nat → Nat) (t e : Nat) : Prop := ∃ b, t ≤ b ∧ b < 120 ∧ 0 < f (hq b) ∧ e = b + f (hq b)
/-- a state came from p: an act, begun at p's label or later, ends at its label -/
def Fr (f : Nat → Nat → Nat) (wh : Nat → Bool) (ch : Nat) (L : Nat → Nat) (s p : Nat) : Prop := ∃ τ, L p ≤ τ ∧ arcP f wh ch p τ s (L s)
theorem fr_lt {f : Nat → Nat → Nat} {wh : Nat → Bool} {ch : Nat} {L : Nat → Nat} {s p : Nat} (hc0 : 0 < ch) (h : Fr f wh ch L s p) : L p < L s := by
  obtain ⟨τ, a, b⟩ := h
  have := arc_lt hc0 b
  omega
theorem fr_turn {f : Nat → Nat → Nat} {wh : Nat → Bool} {ch : Nat} {L : Nat → Nat} {s p : Nat} (hs : s < 864) (h1 : p / 24 = s / 24) (h2 : p % 3 = s % 3) (h3 : p ≠ s) : Fr f wh ch L s p ↔ L p + ap (p / 3 % 8) (s / 3 % 8) ≤ L s := by
  have sy := ap_sym (p / 3 % 8) (by omega) (s / 3 % 8) (by omega)
  constructor
  · rintro ⟨τ, a, b⟩
    rcases b with ⟨a1, a2, a3, a4⟩ | ⟨a1, a2, a3, a4, a5⟩ | ⟨a1, a2, a3, _⟩
    · omega
    · exact absurd (st_eq h1 a2 h2) h3
    · exact absurd (a1.trans h1.symm) (bs_ne _ (by omega) _ (by omega))
  · intro q
    exact ⟨L s - ap (p / 3 % 8) (s / 3 % 8), by omega, Or.inl ⟨h1, h2, h3, by omega⟩⟩
theorem fr_sail {f : Nat → Nat → Nat} {wh : Nat → Bool} {ch : Nat} {L : Nat → Nat} {s p : Nat} (hs : s < 864) (h1 : p / 24 = s / 24) (h2 : p / 3 % 8 = s / 3 % 8) (h3 : p ≠ s) : Fr f wh ch L s p ↔ (wh (s % 3) = true ∧ L p + ch ≤ L s) := by
  constructor
  · rintro ⟨τ, a, b⟩
    rcases b with ⟨a1, a2, a3, a4⟩ | ⟨a1, a2, a3, a4, a5⟩ | ⟨a1, a2, a3, _⟩
    · exact absurd (st_eq h1 h2 a2) h3
    · exact ⟨a4, by omega⟩
    · exact absurd (a1.trans h1.symm) (bs_ne _ (by omega) _ (by omega))
  · intro q
    exact ⟨L s - ch, by omega, Or.inr (Or.inl ⟨h1, h2, h3, q.1, by omega⟩)⟩
theorem fr_step {f : Nat → Nat → Nat} {wh : Nat → Bool} {ch : Nat} {L : Nat → Nat} {s p : Nat} (hs : s < 864) (hp : p < 864) (h1 : bsA (p / 24) (p / 3 % 8) = s / 24) (h2 : p / 3 % 8 = s / 3 % 8) (h3 : p % 3 = s % 3) : Fr f wh ch L s p ↔ ExE (f p) (L p) (L s) := by
  have ne : ¬ p / 24 = s / 24 := fun q => bs_ne (p / 24) (by omega) (p / 3 % 8) (by omega) (h1.trans q.symm)
  constructor
  · rintro ⟨τ, a, b⟩
    rcases b with ⟨a1, a2, a3, a4⟩ | ⟨a1, a2, a3, a4, a5⟩ | ⟨a1, a2, a3, b, b1, b2, b3, b4⟩
    · exact absurd a1 ne
    · exact absurd a1 ne
    · exact ⟨b, by omega, b2, b3, b4⟩
  · rintro ⟨b, b1, b2, b3, b4⟩
    exact ⟨L p, Nat.le_refl _, Or.inr (Or.inr ⟨h1, h2, h3, b, b1, b2, b3, b4⟩)⟩
theorem fr_cls {f : Nat → Nat → Nat} {wh : Nat → Bool} {ch : Nat} {L : Nat → Nat} {s p : Nat} (h : Fr f wh ch L s p) : (p / 24 = s / 24 ∧ p % 3 = s % 3 ∧ p ≠ s) ∨ (p / 24 = s / 24 ∧ p / 3 % 8 = s / 3 % 8 ∧ p ≠ s) ∨ (bsA (p / 24) (p / 3 % 8) = s / 24 ∧ p / 3 % 8 = s / 3 % 8 ∧ p % 3 = s % 3) := by
  obtain ⟨τ, a, b⟩ := h
  rcases b with ⟨a1, a2, a3, a4⟩ | ⟨a1, a2, a3, a4, a5⟩ | ⟨a1, a2, a3, _⟩
  · exact Or.inl ⟨a1, a2, a3⟩
  · exact Or.inr (Or.inl ⟨a1, a2, a3⟩)
  · exact Or.inr (Or.inr ⟨a1, a2, a3⟩)
/-- labels that agree up to a tick: who came from where is the same -/
theorem fr_ag {f : Nat → Nat → Nat} {wh : Nat → Bool} {ch T : Nat} {ℓ L : Nat → Nat} (hc0 : 0 < ch) (h : AgT ℓ L T) {s p : Nat} (hs : s < 864) (hp : p < 864) (hT : L s ≤ T) : Fr f wh ch ℓ s p ↔ Fr f wh ch L s p := by
  have es : ℓ s = L s := (h s hs).elim id (fun q => by omega)
  constructor
  · intro q
    have := fr_lt hc0 q
    have ep : ℓ p = L p := (h p hp).elim id (fun q => by omega)
    unfold Fr at q ⊢
    rw [← es, ← ep]; exact q
  · intro q
    have := fr_lt hc0 q
    have ep : ℓ p = L p := (h p hp).elim id (fun q => by omega)
    unfold Fr at q ⊢
    rw [es, ep]; exact q
theorem labF_is {f : Nat → Nat → Nat} {wh : Nat → Bool} {ch s0 t0 : Nat} (hc0 : 0 < ch) (hs0 : s0 < 864) (ht0 : t0 ≤ 120) : IsLab f wh ch s0 t0 (labF f wh ch s0 t0) := by
  have get : ∀ s, labF f wh ch s0 t0 s ≠ 999 → labF f wh ch s0 t0 s < 121 := fun s q => Nat.lt_of_not_le (fun r => q (labF_999 r))
  refine ⟨?_, fun s hs q e => ?_, fun p s t hp hs q a ht => ?_⟩
  · have a : AtN f wh ch s0 t0 (t0 + 1) t0 s0 := by
      unfold AtN
      exact Or.inr ⟨rfl, hs0, Or.inl ⟨rfl, rfl⟩⟩
    have b := at_mono a (121 - (t0 + 1))
    rw [show t0 + 1 + (121 - (t0 + 1)) = 121 by omega] at b
    exact labF_at b
  · have l := get s q
    have a := labF_of l
    generalize labF f wh ch s0 t0 s = t at *
    refine ⟨by omega, ?_⟩
    rw [show 121 = (t + 1) + (121 - (t + 1)) by omega] at a
    have b := at_down (by omega) _ a
    unfold AtN at b
    rcases b with b | ⟨_, _, b⟩
    · have := (at_lt t t s b).1; omega
    · rcases b with ⟨b1, b2⟩ | ⟨b1, p, τ, b2, b3⟩
      · exact absurd b1 e
      · have lt := at_lt t τ p b2
        have c := at_mono b2 (121 - t)
        rw [show t + (121 - t) = 121 by omega] at c
        have ep := labF_at c
        exact ⟨p, lt.2.2, by omega, by rw [ep]; exact b3⟩
  · have l := get p q
    have lt := arc_lt hc0 a
    have b := labF_of l
    rw [show 121 = t + (121 - t) by omega] at b
    have c := at_down lt _ b
    by_cases e : ∃ τ, AtN f wh ch s0 t0 t τ s
    · obtain ⟨τ, e⟩ := e
      have lt2 := (at_lt t τ s e).1
      have e' := at_mono e (121 - t)
      rw [show t + (121 - t) = 121 by omega] at e'
      rw [labF_at e']; omega
    · have d : AtN f wh ch s0 t0 (t + 1) t s := by
        unfold AtN
        exact Or.inr ⟨rfl, hs, Or.inr ⟨fun τ r => e ⟨τ, r⟩, p, _, c, a⟩⟩
      have d' := at_mono d (121 - (t + 1))
      rw [show t + 1 + (121 - (t + 1)) = 121 by omega] at d'
      rw [labF_at d']
      exact Nat.le_refl _
theorem lab_t0 {f : Nat → Nat → Nat} {wh : Nat → Bool} {ch s0 t0 : Nat} {L : Nat → Nat} (h : IsLab f wh ch s0 t0 L) (ht : t0 ≤ 120) : ∀ n s, s < 864 → L s ≤ n → t0 ≤ L s ∧ (L s = t0 → s = s0)
  | n, s, hs, hn => by
    by_cases e : s = s0
    · subst e; exact ⟨by rw [h.1]; exact Nat.le_refl _, fun _ => rfl⟩
    · by_cases q : L s = 999
      · exact ⟨by omega, fun r => by omega⟩
      · obtain ⟨_, p, a, b, _⟩ := h.2.1 s hs q e
        cases n with
        | zero => omega
        | succ n =>
          have := (lab_t0 h ht n p a (by omega)).1
          exact ⟨by omega, fun r => by omega⟩
theorem lab_x {A : Nat → Nat} {w tab ch s0 t0 : Nat} {L : Nat → Nat} (h : IsLab (stF A w tab) (whA A) ch s0 t0 L) (hx : s0 % 3 < A 2040) : ∀ n s, s < 864 → L s ≤ n → L s ≠ 999 → s % 3 < A 2040
  | n, s, hs, hn, q => by
    by_cases e : s = s0
    · rw [e]; exact hx
    · obtain ⟨_, p, a, b, c⟩ := h.2.1 s hs q e
      cases n with
      | zero => omega
      | succ n =>
        have r : L p ≠ 999 := fun r => by
          have := (h.2.1 s hs q e).1
          omega
        have := lab_x h hx n p a (by omega) r
        rcases c with ⟨_, a2, _⟩ | ⟨_, _, _, a4, _⟩ | ⟨_, _, a3, _⟩
        · rw [← a2]; exact this
        · exact (whA_to a4).1
        · rw [← a3]; exact this
noncomputable def prv (f : Nat → Nat → Nat) (wh : Nat → Bool) (ch : Nat) (L : Nat → Nat) (s : Nat) : Nat := lst (Fr f wh ch L s) 864
theorem prv_ok {f : Nat → Nat → Nat} {wh : Nat → Bool} {ch s0 t0 : Nat} {L : Nat → Nat} (hc0 : 0 < ch) (h : IsLab f wh ch s0 t0 L) {s : Nat} (hs : s < 864) (e : s ≠ s0) (q : L s ≠ 999) : prv f wh ch L s < 864 ∧ Fr f wh ch L s (prv f wh ch L s) ∧ L (prv f wh ch L s) < L s := by
  obtain ⟨_, p, a, b, c⟩ := h.2.1 s hs q e
  have lt := lst_lt (P := Fr f wh ch L s) a ⟨L p, Nat.le_refl _, c⟩
  have fr := (lst_ok (Fr f wh ch L s) 864).2.1 lt
  exact ⟨lt, fr, fr_lt hc0 fr⟩
/-- the steps of the plan, from its end back -/
noncomputable def plW (f : Nat → Nat → Nat) (wh : Nat → Bool) (ch : Nat) (L : Nat → Nat) (s0 : Nat) : Nat → Nat → List Nat
  | 0, _ => []
  | n + 1, s => if s = s0 then [] else if prv f wh ch L s / 24 = s / 24 then plW f wh ch L s0 n (prv f wh ch L s) else (10 * (s / 3 % 8) + s % 3) :: plW f wh ch L s0 n (prv f wh ch L s)
theorem plW_s0 (f : Nat → Nat → Nat) (wh : Nat → Bool) (ch : Nat) (L : Nat → Nat) (s0 : Nat) : ∀ n, plW f wh ch L s0 n s0 = []
  | 0 => rfl
  | n + 1 => by unfold plW; exact if_pos rfl
theorem plW_in {f : Nat → Nat → Nat} {wh : Nat → Bool} {ch : Nat} {L : Nat → Nat} {s0 n s : Nat} (e : s ≠ s0) (h : prv f wh ch L s / 24 = s / 24) : plW f wh ch L s0 (n + 1) s = plW f wh ch L s0 n (prv f wh ch L s) := by
  conv => lhs; unfold plW
  rw [if_neg e, if_pos h]
theorem plW_out {f : Nat → Nat → Nat} {wh : Nat → Bool} {ch : Nat} {L : Nat → Nat} {s0 n s : Nat} (e : s ≠ s0) (h : ¬ prv f wh ch L s / 24 = s / 24) : plW f wh ch L s0 (n + 1) s = (10 * (s / 3 % 8) + s % 3) :: plW f wh ch L s0 n (prv f wh ch L s) := by
  conv => lhs; unfold plW
  rw [if_neg e, if_neg h]
theorem plW_len {f : Nat → Nat → Nat} {wh : Nat → Bool} {ch : Nat} {L : Nat → Nat} {s0 : Nat} : ∀ n s, (plW f wh ch L s0 n s).length ≤ n
  | 0, _ => Nat.le_refl 0
  | n + 1, s => by
    have ih := plW_len (f := f) (wh := wh) (ch := ch) (L := L) (s0 := s0) n (prv f wh ch L s)
    unfold plW
    split
    · exact Nat.zero_le _
    · split
      · omega
      · rw [List.length_cons]; omega
theorem plW_b {f : Nat → Nat → Nat} {wh : Nat → Bool} {ch : Nat} {L : Nat → Nat} {s0 : Nat} : ∀ n s x, x ∈ plW f wh ch L s0 n s → x / 10 < 8 ∧ x % 10 < 3
  | 0, _, x, h => by cases h
  | n + 1, s, x, h => by
    have ih := plW_b (f := f) (wh := wh) (ch := ch) (L := L) (s0 := s0) n (prv f wh ch L s) x
    unfold plW at h
    split at h
    · cases h
    · split at h
      · exact ih h
      · rcases List.mem_cons.mp h with e | e
        · omega
        · exact ih e
