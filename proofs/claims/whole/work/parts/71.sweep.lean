/-! ===== the sweeps ===== -/
def arc2 (A : Nat → Nat) (ch p τ s t : Nat) : Prop := (p / 24 = s / 24 ∧ p % 3 = s % 3 ∧ p ≠ s ∧ t = τ + ap (s / 3 % 8) (p / 3 % 8)) ∨ (p / 24 = s / 24 ∧ p / 3 % 8 = s / 3 % 8 ∧ p ≠ s ∧ whA A (s % 3) = true ∧ t = τ + ch)
def WI (A : Nat → Nat) (w tab ch s0 t0 : Nat) (ℓ : Nat → Nat) (T P : Nat) : Prop :=
  (ℓ s0 = t0 ∧ t0 ≤ T) ∧
  (∀ s, s < 864 → ℓ s ≠ 999 → s ≠ s0 → ℓ s ≤ 120 ∧ ∃ p, p < 864 ∧ ℓ p < ℓ s ∧ ℓ p ≤ T ∧ arcP (stF A w tab) (whA A) ch p (ℓ p) s (ℓ s)) ∧
  (∀ p s t, p < 864 → s < 864 → (ℓ p < T ∨ ℓ p = T ∧ p < P) → arc2 A ch p (ℓ p) s t → t ≤ 120 → ℓ s ≤ t) ∧
  (∀ p s b, p < 864 → s < 864 → bsA (p / 24) (p / 3 % 8) = s / 24 → p / 3 % 8 = s / 3 % 8 → p % 3 = s % 3 → ℓ p ≤ b → b < 120 → (b < T ∨ b = T ∧ p < P) → 0 < stF A w tab p (hq b) → b + stF A w tab p (hq b) ≤ 120 → ℓ s ≤ b + stF A w tab p (hq b)) ∧
  (∀ s, s < 864 → ℓ s ≠ 999 → s % 3 < A 2040)
theorem WI.go {A ℓ : Nat → Nat} {w tab ch s0 t0 T p : Nat} (h : WI A w tab ch s0 t0 ℓ T p) (b3 : A 2040 ≤ 3) (hp : p < 864) (hT : T < 120) (hc0 : 0 < ch) (hn : ℓ p ≠ 999) (hl : ℓ p ≤ T) : WI A w tab ch s0 t0 (goL A w tab ch ℓ T p) T (p + 1) := by
  obtain ⟨⟨h1, h1'⟩, h2, h3, h4, h5⟩ := h
  have hx := h5 p hp hn
  obtain ⟨r, g1, g2⟩ := go_rx (w := w) (tab := tab) b3 hp hT hc0 hx hl
  generalize goL A w tab ch ℓ T p = ℓ' at r g1 g2 ⊢
  have lo : ∀ s, ℓ' s ≤ ℓ s := fun s => (r s).1
  have kp : ∀ s, ℓ' s ≤ T → ℓ' s = ℓ s := fun s q => (r s).2.elim id (fun c => by have := c.2.2.1; omega)
  have kq : ∀ s, ℓ s ≤ T → ℓ' s = ℓ s := fun s q => kp s (Nat.le_trans (lo s) q)
  refine ⟨⟨by rw [kq s0 (by omega)]; exact h1, h1'⟩, fun s hs q e => ?_, fun p' s t hp' hs q a ht => ?_, fun p' s b hp' hs a1 a2 a3 q1 q2 q3 q4 q5 => ?_, fun s hs q => ?_⟩
  · rcases (r s).2 with c | c
    · rw [c] at q ⊢
      obtain ⟨k1, p', k2, k3, k4, k5⟩ := h2 s hs q e
      exact ⟨k1, p', k2, by rw [kq p' k4]; exact k3, by rw [kq p' k4]; exact k4, by rw [kq p' k4]; exact k5⟩
    · obtain ⟨c1, c2, c3, c4, c5⟩ := c
      exact ⟨c2, p, hp, by rw [kq p hl]; omega, by rw [kq p hl]; exact hl, by rw [kq p hl]; exact c5⟩
  · have e := kp p' (by omega)
    rw [e] at q a
    by_cases c : ℓ p' < T ∨ ℓ p' = T ∧ p' < p
    · exact Nat.le_trans (lo s) (h3 p' s t hp' hs c a ht)
    · have c1 : p' = p := by omega
      have c2 : ℓ p' = T := by omega
      subst c1
      obtain ⟨u1, u2⟩ := g1 c2
      have su := st_un s
      have pu := st_un p'
      rcases a with ⟨a1, a2, a3, a4⟩ | ⟨a1, a2, a3, a4, a5⟩
      · have ne : s / 3 % 8 ≠ p' / 3 % 8 := fun z => a3 (by rw [← su, ← pu, z, a1, a2])
        have v := u1 (s / 3 % 8) (by omega) ne (by rw [← c2, ← a4]; exact ht)
        rw [a1, a2, su] at v
        rw [a4, c2]; exact v
      · have ne : s % 3 ≠ p' % 3 := fun z => a3 (by rw [← su, ← pu, z, a1, a2])
        obtain ⟨y1, y2⟩ := whA_to a4
        have v := u2 (s % 3) y1 ne y2 (by rw [← c2, ← a5]; exact ht)
        rw [a1, a2, su] at v
        rw [a5, c2]; exact v
  · have e := kp p' (by omega)
    rw [e] at q1
    by_cases c : b < T ∨ b = T ∧ p' < p
    · exact Nat.le_trans (lo s) (h4 p' s b hp' hs a1 a2 a3 q1 q2 c q4 q5)
    · have c1 : p' = p := by omega
      have c2 : b = T := by omega
      subst c1; subst c2
      have v := g2 q4 q5
      rw [a1, a2, a3, st_un] at v
      exact v
  · rcases (r s).2 with c | c
    · rw [c] at q; exact h5 s hs q
    · exact c.2.2.2.1
theorem WI.skip {A ℓ : Nat → Nat} {w tab ch s0 t0 T p : Nat} (h : WI A w tab ch s0 t0 ℓ T p) (hT : T < 120) (hs : ℓ p = 999 ∨ T < ℓ p ∨ (ℓ p < T ∧ ¬ T % 10 = 0)) : WI A w tab ch s0 t0 ℓ T (p + 1) := by
  obtain ⟨h1, h2, h3, h4, h5⟩ := h
  refine ⟨h1, h2, fun p' s t hp' hs' q a ht => ?_, fun p' s b hp' hs' a1 a2 a3 q1 q2 q3 q4 q5 => ?_, h5⟩
  · refine h3 p' s t hp' hs' ?_ a ht
    by_cases c : p' = p
    · subst c; omega
    · omega
  · by_cases c : b < T ∨ b = T ∧ p' < p
    · exact h4 p' s b hp' hs' a1 a2 a3 q1 q2 c q4 q5
    · have c1 : p' = p := by omega
      have c2 : b = T := by omega
      subst c1; subst c2
      have m : ℓ p' < b ∧ ¬ b % 10 = 0 := by omega
      have e : hq (b - 1) = hq b := by unfold hq; rw [if_pos (by omega), if_pos q2]; omega
      have v := h4 p' s (b - 1) hp' hs' a1 a2 a3 (by omega) (by omega) (Or.inl (by omega))
      rw [e] at v
      exact Nat.le_trans (v q4 (by omega)) (by omega)
theorem WI.tick {A ℓ : Nat → Nat} {w tab ch s0 t0 T : Nat} (h : WI A w tab ch s0 t0 ℓ T 864) : WI A w tab ch s0 t0 ℓ (T + 1) 0 := by
  obtain ⟨⟨h1, h1'⟩, h2, h3, h4, h5⟩ := h
  refine ⟨⟨h1, by omega⟩, fun s hs q e => ?_, fun p s t hp hs q a ht => h3 p s t hp hs (by omega) a ht, fun p s b hp hs a1 a2 a3 q1 q2 q3 q4 q5 => h4 p s b hp hs a1 a2 a3 q1 q2 (by omega) q4 q5, h5⟩
  obtain ⟨k1, p', k2, k3, k4, k5⟩ := h2 s hs q e
  exact ⟨k1, p', k2, k3, by omega, k5⟩
theorem WI.fin {A ℓ : Nat → Nat} {w tab ch s0 t0 T P : Nat} (h : WI A w tab ch s0 t0 ℓ T P) (hc0 : 0 < ch) (ht0 : t0 ≤ 120) (hT : 120 ≤ T) : IsLab (stF A w tab) (whA A) ch s0 t0 ℓ := by
  obtain ⟨⟨h1, h1'⟩, h2, h3, h4, h5⟩ := h
  refine ⟨h1, fun s hs q e => ?_, fun p s t hp hs q a ht => ?_⟩
  · obtain ⟨k1, p', k2, k3, k4, k5⟩ := h2 s hs q e
    exact ⟨k1, p', k2, k3, k5⟩
  · rcases a with a | a | ⟨a1, a2, a3, b, b1, b2, b3, b4⟩
    · have su := st_un s
      have pu := st_un p
      have po := ap_pos (s / 3 % 8) (by omega) (p / 3 % 8) (by omega) (fun z => a.2.2.1 (by rw [← su, ← pu, z, a.1, a.2.1]))
      have := a.2.2.2
      exact h3 p s t hp hs (Or.inl (by omega)) (Or.inl a) ht
    · have := a.2.2.2.2
      exact h3 p s t hp hs (Or.inl (by omega)) (Or.inr a) ht
    · rw [b4]
      exact h4 p s b hp hs a1 a2 a3 b1 b2 (Or.inl (by omega)) b3 (by omega)
theorem WI.ini {A : Nat → Nat} {w tab ch s0 t0 : Nat} (ht : t0 ≤ 120) (hx : s0 % 3 < A 2040) : WI A w tab ch s0 t0 (uN (fun _ => 999) s0 t0) t0 0 := by
  have ne : ∀ s, s ≠ s0 → uN (fun _ => 999) s0 t0 s = 999 := fun s e => uN_ne _ _ e
  have eq : uN (fun _ => 999) s0 t0 s0 = t0 := uN_eq _ _ _
  generalize uN (fun _ => 999) s0 t0 = ℓ at ne eq ⊢
  refine ⟨⟨eq, Nat.le_refl _⟩, fun s hs q e => absurd (ne s e) q, fun p s t hp hs q a h => ?_, fun p s b hp hs a1 a2 a3 q1 q2 q3 q4 q5 => ?_, fun s hs q => ?_⟩
  · by_cases e : p = s0
    · subst e; omega
    · have := ne p e; omega
  · by_cases e : p = s0
    · subst e; omega
    · have := ne p e; omega
  · by_cases e : s = s0
    · subst e; exact hx
    · exact absurd (ne s e) q
/-- works: labels from a state at a tick -/
theorem m_252 {m : Nat} {A : Nat → Nat} (w tab ch s0 t0 : Nat) (hs0 : s0 < 864) (ht0 : t0 ≤ 120) (hc0 : 0 < ch) (hch : ch < 10000) (hx : s0 % 3 < A 2040) {μ : wm_M} {Q : wm_M → Prop} (hB : BA m A) (h0 : Nat) (h0T : h0 ≤ hq t0) (hM : RM 91 A μ) (hS : LSt A w tab h0 10368 μ) (hk : ∀ ν ℓ, LabM ℓ ν → IsLab (stF A w tab) (whA A) ch s0 t0 ℓ → ν.1 89 25 = nI s0 → (∀ i, i ≠ 25 → ν.1 89 i = μ.1 89 i) → (∀ d, d ≠ 96 → d ≠ 89 → ν.1 d = μ.1 d) → Q ν) : wm_OkV 0 252 [.ref 89, .int (nI ch), .int (nI s0), .int (nI t0)] μ Q := by
  have b3 := hB.sails
  -- frame: from the memory with the start noted
  have sweep : ∀ μ1, RM 91 A μ1 → LSt A w tab h0 10368 μ1 → (∀ ν ℓ, LabM ℓ ν → IsLab (stF A w tab) (whA A) ch s0 t0 ℓ → (∀ d, d ≠ 96 → ν.1 d = μ1.1 d) → Q ν) → ∀ j T ν ℓ, T + j = 120 → t0 ≤ T → LabM ℓ ν → WI A w tab ch s0 t0 ℓ T 0 → (∀ d, d ≠ 96 → ν.1 d = μ1.1 d) → wm_Wp 0 252 40 [.ref 89, .int (nI ch), .null, .null, .int (nI T), .null] ν (fun w ν => w = none ∧ Q ν) := by
    intro μ1 hM1 hS1 hk1 j
    induction j with
    | zero =>
      intro T ν ℓ hj ht hL hW hF
      have : T = 120 := by omega
      subst this
      exact w_252_40 _ _ _ _ ⟨fun _ => w_252_125 _ _ ⟨rfl, hk1 ν ℓ hL (hW.fin hc0 ht0 (Nat.le_refl _)) hF⟩, fun q => absurd (nI_le (Nat.le_refl 120) (by decide)) q⟩
    | succ j ih =>
      intro T ν ℓ hj ht hL hW hF
      have hT : T < 120 := by omega
      have row : ∀ i p κ ℓ, p + i = 864 → LabM ℓ κ → WI A w tab ch s0 t0 ℓ T p → (∀ d, d ≠ 96 → κ.1 d = μ1.1 d) → wm_Wp 0 252 50 [.ref 89, .int (nI ch), .null, .null, .int (nI T), .int (nI p)] κ (fun w ν => w = none ∧ Q ν) := by
        intro i
        induction i with
        | zero =>
          intro p κ ℓ hi hL hW hF
          have : p = 864 := by omega
          subst this
          refine w_252_50 _ _ _ _ _ ⟨fun _ => w_252_119 _ _ _ _ ?_, fun q => absurd (nI_le (Nat.le_refl 864) (by decide)) q⟩
          rw [nI_1]
          exact ih (T + 1) κ ℓ (by omega) (by omega) hL hW.tick hF
        | succ i ihi =>
          intro p κ ℓ hi hL hW hF
          have hp : p < 864 := by omega
          have vp : vp_in (nI p) 864 := vp_in_nI hp (by decide)
          obtain ⟨l1, l2⟩ := hL p hp
          have hMκ : RM 91 A κ := hM1.fr (hF 91 (by decide))
          have hSκ : LSt A w tab h0 10368 κ := fun hr s a b c d => by rw [hF 95 (by decide)]; exact hS1 hr s a b c d
          have hqm : hq t0 ≤ hq T := by unfold hq; rw [if_pos hT, if_pos (by omega)]; omega
          have skip : (ℓ p = 999 ∨ T < ℓ p ∨ (ℓ p < T ∧ ¬ T % 10 = 0)) → wm_Wp 0 252 113 [.ref 89, .int (nI ch), .null, .null, .int (nI T), .int (nI p)] κ (fun w ν => w = none ∧ Q ν) := fun q => by
            refine w_252_113 _ _ _ _ _ ?_
            rw [nI_1]
            exact ihi (p + 1) κ ℓ (by omega) hL (hW.skip hT q) hF
          have go : ℓ p ≠ 999 → ℓ p ≤ T → wm_Wp 0 252 104 [.ref 89, .int (nI ch), .null, .null, .int (nI T), .int (nI p)] κ (fun w ν => w = none ∧ Q ν) := fun q1 q2 => by
            refine w_252_104 _ _ _ _ _ (m_253 w tab ch T p h0 hp (by omega) hch (by omega) hB hMκ hSκ hL (fun ξ k1 k2 => w_252_113 _ _ _ _ _ ?_))
            rw [nI_1]
            exact ihi (p + 1) ξ _ (by omega) k1 (hW.go (by omega) hp hT hc0 q1 q2) (fun d e => (k2 d e).trans (hF d e))
          refine w_252_50 _ _ _ _ _ ⟨fun q => absurd q (nI_ge (a := p) (b := 864) (by omega) (by decide)), fun _ => ⟨vp, ?_⟩⟩
          rw [nI_clamp (show p < 2 ^ 31 by omega), l2]
          by_cases e : ℓ p = 999
          · rw [if_pos e]
            exact ⟨fun _ => skip (Or.inl e), fun q => absurd rfl q⟩
          · rw [if_neg e, show nI T - nI T / (10 : Int32) * (10 : Int32) = nI (T % 10) from pk_rem (d := 10) (by omega) (by decide) (by decide)]
            refine ⟨fun q => absurd q.symm (fun q => (nI_meq (b := 1) (by omega) (by decide) (by decide)).mp q), fun _ => ⟨vp, fun q => skip (Or.inr (Or.inl ((nI_ltI (by omega) (by omega)).mp q))), fun q => ⟨vp, ?_⟩⟩⟩
            have q : ℓ p ≤ T := Nat.le_of_not_lt (fun z => q ((nI_ltI (by omega) (by omega)).mpr z))
            refine ⟨fun _ => go e q, fun z => ⟨by decide, fun _ => go e q, fun y => skip (Or.inr (Or.inr ⟨Nat.lt_of_not_le (fun x => z ((nI_leI (by omega) (by omega)).mpr x)), fun x => y (by rw [x]; rfl)⟩))⟩⟩
      exact w_252_40 _ _ _ _ ⟨fun q => absurd q (nI_ge (a := T) (b := 120) (by omega) (by decide)), fun _ => row 864 0 ν ℓ rfl hL hW hF⟩
  have fill : ∀ j s ν, s + j = 864 → (∀ i, i < s → ν.1 96 i = -1) → (∀ d, d ≠ 96 → ν.1 d = μ.1 d) → wm_Wp 0 252 3 [.ref 89, .int (nI ch), .int (nI s0), .int (nI t0), .int (nI s), .null] ν (fun w ν => w = none ∧ Q ν) := by
    intro j
    induction j with
    | zero =>
      intro s ν hj hA hF
      have : s = 864 := by omega
      subst this
      refine w_252_3 _ _ _ _ _ _ ⟨fun _ => w_252_25 _ _ _ _ _ ⟨vp_in_nI hs0 (by decide), ?_⟩, fun q => absurd (nI_le (Nat.le_refl 864) (by decide)) q⟩
      rw [nI_clamp (show s0 < 2 ^ 31 by omega)]
      refine sweep (wm_si (wm_si ν 96 s0 (nI t0)) 89 25 (nI s0)) (hM.fr (hF 91 (by decide))) (fun hr s a b c d => ?_) (fun κ ℓ k1 k2 k3 => hk κ ℓ k1 k2 ?_ (fun i hi => ?_) (fun d a b => ?_)) (120 - t0) t0 _ (uN (fun _ => 999) s0 t0) (by omega) (Nat.le_refl _) (fun s hs => ?_) (WI.ini ht0 hx) (fun _ _ => rfl)
      · show ν.1 95 _ = _
        rw [hF 95 (by decide)]; exact hS hr s a b c d
      · rw [k3 89 (by decide), si_same]
      · rw [k3 89 (by decide), si_other _ _ hi]
        show ν.1 89 i = _
        rw [hF 89 (by decide)]
      · rw [k3 d a, si_ne _ _ _ b, si_ne _ _ _ a, hF d a]
      · show _ ∧ (wm_si ν 96 s0 (nI t0)).1 96 s = _
        by_cases e : s = s0
        · subst e
          rw [uN_eq, si_same, if_neg (by omega)]
          exact ⟨by omega, rfl⟩
        · rw [uN_ne _ _ e, si_other _ _ e, if_pos rfl]
          exact ⟨Nat.le_refl _, hA s hs⟩
    | succ j ih =>
      intro s ν hj hA hF
      refine w_252_3 _ _ _ _ _ _ ⟨fun q => absurd q (nI_ge (a := s) (b := 864) (by omega) (by decide)), fun _ => ⟨vp_in_nI (by omega) (by decide), ?_⟩⟩
      rw [nI_clamp (show s < 2 ^ 31 by omega), nI_1]
      refine ih (s + 1) _ (by omega) (fun i hi => ?_) (fun d e => by rw [si_ne _ _ _ e]; exact hF d e)
      by_cases e : i = s
      · subst e; rw [si_same]
      · rw [si_other _ _ e]; exact hA i (by omega)
  exact v_252 _ _ _ _ _ (fill 864 0 μ rfl (fun i hi => by omega) (fun _ _ => rfl))
