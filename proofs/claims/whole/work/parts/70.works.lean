/-! ===== the reference's sweeps give the labels ===== -/
def Rx (C : Nat → Nat → Prop) (ℓ ℓ' : Nat → Nat) : Prop := ∀ s, ℓ' s ≤ ℓ s ∧ (ℓ' s = ℓ s ∨ C s (ℓ' s))
theorem Rx.rf (C : Nat → Nat → Prop) (ℓ : Nat → Nat) : Rx C ℓ ℓ := fun s => ⟨Nat.le_refl _, Or.inl rfl⟩
theorem Rx.tr {C : Nat → Nat → Prop} {a b c : Nat → Nat} (h : Rx C a b) (g : Rx C b c) : Rx C a c := fun s => ⟨Nat.le_trans (g s).1 (h s).1, by
  rcases (g s).2 with e | e
  · rw [e]; exact (h s).2
  · exact Or.inr e⟩
theorem Rx.bt {C : Nat → Nat → Prop} {ℓ : Nat → Nat} {s t : Nat} (h : t ≤ 120 → C s t) : Rx C ℓ (btL ℓ s t) := fun s' => by
  unfold btL
  split
  · rename_i q
    by_cases e : s' = s
    · subst e
      rw [uN_eq]
      exact ⟨by omega, Or.inr (h q.1)⟩
    · rw [uN_ne _ _ e]; exact ⟨Nat.le_refl _, Or.inl rfl⟩
  · exact ⟨Nat.le_refl _, Or.inl rfl⟩
theorem bt_le {ℓ : Nat → Nat} {s t : Nat} (h : t ≤ 120) : btL ℓ s t s ≤ t := by
  unfold btL
  split
  · rw [uN_eq]; exact Nat.le_refl _
  · omega
theorem turn_rx {C : Nat → Nat → Prop} {ℓ : Nat → Nat} {T c hd x : Nat} (h : ∀ h, h < 8 → h ≠ hd → T + ap h hd ≤ 120 → C (st_ c h x) (T + ap h hd)) : ∀ n, n ≤ 8 → Rx C ℓ (turnL ℓ T c hd x n) ∧ ∀ h, h < n → h ≠ hd → T + ap h hd ≤ 120 → turnL ℓ T c hd x n (st_ c h x) ≤ T + ap h hd
  | 0, _ => ⟨Rx.rf _ _, fun h q => by omega⟩
  | n + 1, hn => by
    obtain ⟨i1, i2⟩ := turn_rx (ℓ := ℓ) h n (by omega)
    unfold turnL
    split
    · rename_i e
      exact ⟨i1, fun h' a b d => i2 h' (by omega) b d⟩
    · rename_i e
      have r : Rx C (turnL ℓ T c hd x n) (btL (turnL ℓ T c hd x n) (st_ c n x) (T + ap n hd)) := Rx.bt (h n (by omega) e)
      refine ⟨i1.tr r, fun h' a b d => ?_⟩
      by_cases q : h' = n
      · subst q; exact bt_le d
      · exact Nat.le_trans (r _).1 (i2 h' (by omega) b d)
theorem sail_rx {C : Nat → Nat → Prop} {A ℓ : Nat → Nat} {T ch c hd x m : Nat} (h : ∀ y, y < m → y ≠ x → A (452 + y) = 0 → T + ch ≤ 120 → C (st_ c hd y) (T + ch)) : ∀ n, n ≤ m → Rx C ℓ (sailL A ℓ T ch c hd x n) ∧ ∀ y, y < n → y ≠ x → A (452 + y) = 0 → T + ch ≤ 120 → sailL A ℓ T ch c hd x n (st_ c hd y) ≤ T + ch
  | 0, _ => ⟨Rx.rf _ _, fun h q => by omega⟩
  | n + 1, hn => by
    obtain ⟨i1, i2⟩ := sail_rx (ℓ := ℓ) h n (by omega)
    unfold sailL
    split
    · rename_i e
      refine ⟨i1, fun y a b d g => i2 y ?_ b d g⟩
      by_cases q : y = n
      · subst q; exact absurd e (fun e => e.elim b (fun e => e d))
      · omega
    · rename_i e
      have r : Rx C (sailL A ℓ T ch c hd x n) (btL (sailL A ℓ T ch c hd x n) (st_ c hd n) (T + ch)) := Rx.bt (h n (by omega) (fun q => e (Or.inl q)) (Decidable.not_not.mp (fun q => e (Or.inr q))))
      refine ⟨i1.tr r, fun y a b d g => ?_⟩
      by_cases q : y = n
      · subst q; exact bt_le g
      · exact Nat.le_trans (r _).1 (i2 y (by omega) b d g)
theorem ap_pos : ∀ a, a < 8 → ∀ b, b < 8 → a ≠ b → 0 < ap a b := by decide +kernel
/-- what an act from p may give -/
def Cn (A : Nat → Nat) (w tab ch T p τ s t : Nat) : Prop := s < 864 ∧ t ≤ 120 ∧ T < t ∧ s % 3 < A 2040 ∧ arcP (stF A w tab) (whA A) ch p τ s t
theorem whA_of {A : Nat → Nat} {y : Nat} (h : y < A 2040) (z : A (452 + y) = 0) : whA A y = true := by
  unfold whA
  rw [z, Bool.and_eq_true]
  exact ⟨Nat.blt_eq.mpr h, rfl⟩
theorem whA_to {A : Nat → Nat} {y : Nat} (h : whA A y = true) : y < A 2040 ∧ A (452 + y) = 0 := by
  unfold whA at h
  rw [Bool.and_eq_true] at h
  exact ⟨Nat.blt_eq.mp h.1, Nat.eq_of_beq_eq_true h.2⟩
theorem go_rx {A ℓ : Nat → Nat} {w tab ch T p : Nat} (b3 : A 2040 ≤ 3) (hp : p < 864) (hT : T < 120) (hc0 : 0 < ch) (hx : p % 3 < A 2040) (hl : ℓ p ≤ T) : Rx (Cn A w tab ch T p (ℓ p)) ℓ (goL A w tab ch ℓ T p) ∧
    (ℓ p = T → (∀ h, h < 8 → h ≠ p / 3 % 8 → T + ap h (p / 3 % 8) ≤ 120 → goL A w tab ch ℓ T p (st_ (p / 24) h (p % 3)) ≤ T + ap h (p / 3 % 8)) ∧ (∀ y, y < A 2040 → y ≠ p % 3 → A (452 + y) = 0 → T + ch ≤ 120 → goL A w tab ch ℓ T p (st_ (p / 24) (p / 3 % 8) y) ≤ T + ch)) ∧
    (0 < stF A w tab p (hq T) → T + stF A w tab p (hq T) ≤ 120 → goL A w tab ch ℓ T p (st_ (bsA (p / 24) (p / 3 % 8)) (p / 3 % 8) (p % 3)) ≤ T + stF A w tab p (hq T)) := by
  have hh : p / 3 % 8 < 8 := by omega
  have pu := st_un p
  have eG : stG A w tab p (hq T) = stF A w tab p (hq T) := by unfold stG; exact if_pos hx
  have stp : ∀ ℓ2, Rx (Cn A w tab ch T p (ℓ p)) ℓ2 (stepL A w tab ℓ2 T p) ∧ (0 < stF A w tab p (hq T) → T + stF A w tab p (hq T) ≤ 120 → stepL A w tab ℓ2 T p (st_ (bsA (p / 24) (p / 3 % 8)) (p / 3 % 8) (p % 3)) ≤ T + stF A w tab p (hq T)) := fun ℓ2 => by
    unfold stepL
    rw [eG]
    split
    · rename_i q
      have e36 := stG_bs (by rw [eG]; exact q)
      have b36 := bsA_lt (p / 24) (p / 3 % 8)
      obtain ⟨s1, s2, s3⟩ := sdec (bsA (p / 24) (p / 3 % 8)) (p / 3 % 8) (p % 3) hh (by omega)
      refine ⟨Rx.bt (fun t => ⟨by unfold st_; omega, t, by omega, by rw [s1]; exact hx, Or.inr (Or.inr ⟨s3.symm, s2.symm, s1.symm, T, hl, hT, q, rfl⟩)⟩), fun _ r => bt_le r⟩
    · rename_i q
      exact ⟨Rx.rf _ _, fun r => absurd r q⟩
  unfold goL
  by_cases e : ℓ p = T
  · rw [if_pos e]
    obtain ⟨t1, t2⟩ := turn_rx (C := Cn A w tab ch T p (ℓ p)) (ℓ := ℓ) (T := T) (c := p / 24) (hd := p / 3 % 8) (x := p % 3) (fun h a b d => by
      obtain ⟨s1, s2, s3⟩ := sdec (p / 24) h (p % 3) a (by omega)
      have po := ap_pos h a (p / 3 % 8) hh b
      refine ⟨by unfold st_; omega, d, by omega, by rw [s1]; exact hx, Or.inl ⟨s3.symm, s1.symm, fun r => b ?_, by rw [s2, e]⟩⟩
      rw [← s2, ← r]) 8 (Nat.le_refl 8)
    obtain ⟨u1, u2⟩ := sail_rx (C := Cn A w tab ch T p (ℓ p)) (A := A) (ℓ := turnL ℓ T (p / 24) (p / 3 % 8) (p % 3) 8) (T := T) (ch := ch) (c := p / 24) (hd := p / 3 % 8) (x := p % 3) (m := A 2040) (fun y a b z d => by
      obtain ⟨s1, s2, s3⟩ := sdec (p / 24) (p / 3 % 8) y hh (by omega)
      refine ⟨by unfold st_; omega, d, by omega, by rw [s1]; exact a, Or.inr (Or.inl ⟨s3.symm, s2.symm, fun r => b ?_, by rw [s1]; exact whA_of a z, by rw [e]⟩)⟩
      rw [← s1, ← r]) (A 2040) (Nat.le_refl _)
    obtain ⟨v1, v2⟩ := stp (sailL A (turnL ℓ T (p / 24) (p / 3 % 8) (p % 3) 8) T ch (p / 24) (p / 3 % 8) (p % 3) (A 2040))
    exact ⟨(t1.tr u1).tr v1, fun _ => ⟨fun h a b d => Nat.le_trans ((u1.tr v1) _).1 (t2 h a b d), fun y a b z d => Nat.le_trans (v1 _).1 (u2 y a b z d)⟩, v2⟩
  · rw [if_neg e]
    obtain ⟨v1, v2⟩ := stp ℓ
    exact ⟨v1, fun q => absurd q e, v2⟩
