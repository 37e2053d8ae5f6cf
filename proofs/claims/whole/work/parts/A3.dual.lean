/-! Small games: a kernel is there (3x3 by the certificate, 2x2 by cases); weak duality; floors. -/
theorem g_ker3 (a : Nat → Nat → Int) : (∃ i j, i < 3 ∧ j < 3 ∧ gOk1 3 a i j) ∨ (∃ i k j l, i < k ∧ k < 3 ∧ j < l ∧ l < 3 ∧ gOk2 3 a i k j l) ∨ gOk3 a := by
  refine Classical.byContradiction fun hn => g_no (V := g_V a) ⟨g_ax a, ?_⟩ rfl
  have n1 : ∀ i j, i < 3 → j < 3 → ¬ gOk1 3 a i j := fun i j hi hj h => hn (Or.inl ⟨i, j, hi, hj, h⟩)
  have n2 : ∀ i k j l, i < k → k < 3 → j < l → l < 3 → ¬ gOk2 3 a i k j l := fun i k j l h1 h2 h3 h4 h => hn (Or.inr (Or.inl ⟨i, k, j, l, h1, h2, h3, h4, h⟩))
  have n3 : ¬ gOk3 a := fun h => hn (Or.inr (Or.inr h))
  unfold g_K
  exact (g_fc (g_fc ⟨by decide, fun H => n1 0 0 (by decide) (by decide) (g_k0 a H)⟩ (g_fc ⟨by decide, fun H => n1 0 1 (by decide) (by decide) (g_k1 a H)⟩ (g_fc ⟨by decide, fun H => n1 0 2 (by decide) (by decide) (g_k2 a H)⟩ (g_fc ⟨by decide, fun H => n1 1 0 (by decide) (by decide) (g_k3 a H)⟩ (g_fc ⟨by decide, fun H => n1 1 1 (by decide) (by decide) (g_k4 a H)⟩ (g_fc ⟨by decide, fun H => n1 1 2 (by decide) (by decide) (g_k5 a H)⟩ (g_fc ⟨by decide, fun H => n1 2 0 (by decide) (by decide) (g_k6 a H)⟩ (g_fc ⟨by decide, fun H => n1 2 1 (by decide) (by decide) (g_k7 a H)⟩ (g_fc ⟨by decide, fun H => n1 2 2 (by decide) (by decide) (g_k8 a H)⟩ (g_fc ⟨by decide, fun H => n2 0 1 0 1 (by decide) (by decide) (by decide) (by decide) (g_k9 a H)⟩ (g_fc ⟨by decide, fun H => n2 0 1 0 1 (by decide) (by decide) (by decide) (by decide) (g_k10 a H)⟩ (g_fc ⟨by decide, fun H => n2 0 1 0 2 (by decide) (by decide) (by decide) (by decide) (g_k11 a H)⟩ (g_fc ⟨by decide, fun H => n2 0 1 0 2 (by decide) (by decide) (by decide) (by decide) (g_k12 a H)⟩ (g_fc ⟨by decide, fun H => n2 0 1 1 2 (by decide) (by decide) (by decide) (by decide) (g_k13 a H)⟩ (g_fc ⟨by decide, fun H => n2 0 1 1 2 (by decide) (by decide) (by decide) (by decide) (g_k14 a H)⟩ (g_fc ⟨by decide, fun H => n2 0 2 0 1 (by decide) (by decide) (by decide) (by decide) (g_k15 a H)⟩ g_fn)))))))))))))))) (g_fc (g_fc ⟨by decide, fun H => n2 0 2 0 1 (by decide) (by decide) (by decide) (by decide) (g_k16 a H)⟩ (g_fc ⟨by decide, fun H => n2 0 2 0 2 (by decide) (by decide) (by decide) (by decide) (g_k17 a H)⟩ (g_fc ⟨by decide, fun H => n2 0 2 0 2 (by decide) (by decide) (by decide) (by decide) (g_k18 a H)⟩ (g_fc ⟨by decide, fun H => n2 0 2 1 2 (by decide) (by decide) (by decide) (by decide) (g_k19 a H)⟩ (g_fc ⟨by decide, fun H => n2 0 2 1 2 (by decide) (by decide) (by decide) (by decide) (g_k20 a H)⟩ (g_fc ⟨by decide, fun H => n2 1 2 0 1 (by decide) (by decide) (by decide) (by decide) (g_k21 a H)⟩ (g_fc ⟨by decide, fun H => n2 1 2 0 1 (by decide) (by decide) (by decide) (by decide) (g_k22 a H)⟩ (g_fc ⟨by decide, fun H => n2 1 2 0 2 (by decide) (by decide) (by decide) (by decide) (g_k23 a H)⟩ (g_fc ⟨by decide, fun H => n2 1 2 0 2 (by decide) (by decide) (by decide) (by decide) (g_k24 a H)⟩ (g_fc ⟨by decide, fun H => n2 1 2 1 2 (by decide) (by decide) (by decide) (by decide) (g_k25 a H)⟩ (g_fc ⟨by decide, fun H => n2 1 2 1 2 (by decide) (by decide) (by decide) (by decide) (g_k26 a H)⟩ (g_fc ⟨by decide, fun H => n3 (g_k27 a H)⟩ (g_fc ⟨by decide, fun H => n3 (g_k28 a H)⟩ g_fn))))))))))))) g_fn))

theorem g_ker2_ (p q r s : Int) : (p ≤ q ∧ r ≤ p) ∨ (q ≤ p ∧ s ≤ q) ∨ (r ≤ s ∧ p ≤ r) ∨ (s ≤ r ∧ q ≤ s) ∨
    (0 < (s - r) + (p - q) ∧ 0 ≤ s - r ∧ 0 ≤ p - q ∧ 0 ≤ s - q ∧ 0 ≤ p - r) ∨ ((s - r) + (p - q) < 0 ∧ s - r ≤ 0 ∧ p - q ≤ 0 ∧ s - q ≤ 0 ∧ p - r ≤ 0) := by omega
theorem g_two {P : Nat → Prop} (h0 : P 0) (h1 : P 1) : ∀ m, m < 2 → P m := fun m hm => match m, hm with | 0, _ => h0 | 1, _ => h1 | n + 2, h => absurd h (by omega)
theorem g_ker2 (a : Nat → Nat → Int) : (∃ i j, i < 2 ∧ j < 2 ∧ gOk1 2 a i j) ∨ gOk2 2 a 0 1 0 1 := by
  rcases g_ker2_ (a 0 0) (a 0 1) (a 1 0) (a 1 1) with h | h | h | h | h | h
  · refine Or.inl ⟨0, 0, by decide, by decide, Or.inl ⟨by decide, g_two ⟨?_, ?_, ?_, ?_⟩ ⟨?_, ?_, ?_, ?_⟩⟩⟩ <;> simp [gS, gx1] <;> omega
  · refine Or.inl ⟨0, 1, by decide, by decide, Or.inl ⟨by decide, g_two ⟨?_, ?_, ?_, ?_⟩ ⟨?_, ?_, ?_, ?_⟩⟩⟩ <;> simp [gS, gx1] <;> omega
  · refine Or.inl ⟨1, 0, by decide, by decide, Or.inl ⟨by decide, g_two ⟨?_, ?_, ?_, ?_⟩ ⟨?_, ?_, ?_, ?_⟩⟩⟩ <;> simp [gS, gx1] <;> omega
  · refine Or.inl ⟨1, 1, by decide, by decide, Or.inl ⟨by decide, g_two ⟨?_, ?_, ?_, ?_⟩ ⟨?_, ?_, ?_, ?_⟩⟩⟩ <;> simp [gS, gx1] <;> omega
  · obtain ⟨h0, h1, h2, h3, h4⟩ := h
    refine Or.inr (Or.inl ⟨h0, g_two ⟨?_, ?_, ?_, ?_⟩ ⟨?_, ?_, ?_, ?_⟩⟩) <;> simp [gS, gx2] <;> grind
  · obtain ⟨h0, h1, h2, h3, h4⟩ := h
    refine Or.inr (Or.inr ⟨h0, g_two ⟨?_, ?_, ?_, ?_⟩ ⟨?_, ?_, ?_, ?_⟩⟩) <;> simp [gS, gx2] <;> grind

theorem g_dual3 (a : Nat → Nat → Int) (y m : Nat → Int) (p q t w : Int) (hy : ∀ j, j < 3 → 0 ≤ y j ∧ gS 3 (fun i => y i * a j i) ≤ p) (hq : gS 3 y = q)
    (hm : ∀ j, j < 3 → 0 ≤ m j ∧ w ≤ gS 3 (fun i => m i * a i j)) (ht : gS 3 m = t) : w * q ≤ p * t := by
  simp only [gS] at *
  have y0 := hy 0 (by decide); have y1 := hy 1 (by decide); have y2 := hy 2 (by decide)
  have m0 := hm 0 (by decide); have m1 := hm 1 (by decide); have m2 := hm 2 (by decide)
  have f0 := Int.mul_nonneg y0.1 (Int.sub_nonneg_of_le m0.2)
  have f1 := Int.mul_nonneg y1.1 (Int.sub_nonneg_of_le m1.2)
  have f2 := Int.mul_nonneg y2.1 (Int.sub_nonneg_of_le m2.2)
  have g0 := Int.mul_nonneg m0.1 (Int.sub_nonneg_of_le y0.2)
  have g1 := Int.mul_nonneg m1.1 (Int.sub_nonneg_of_le y1.2)
  have g2 := Int.mul_nonneg m2.1 (Int.sub_nonneg_of_le y2.2)
  clear y0 y1 y2 m0 m1 m2 hy hm
  subst hq ht
  grind
theorem g_dual2 (a : Nat → Nat → Int) (y m : Nat → Int) (p q t w : Int) (hy : ∀ j, j < 2 → 0 ≤ y j ∧ gS 2 (fun i => y i * a j i) ≤ p) (hq : gS 2 y = q)
    (hm : ∀ j, j < 2 → 0 ≤ m j ∧ w ≤ gS 2 (fun i => m i * a i j)) (ht : gS 2 m = t) : w * q ≤ p * t := by
  simp only [gS] at *
  have y0 := hy 0 (by decide); have y1 := hy 1 (by decide)
  have m0 := hm 0 (by decide); have m1 := hm 1 (by decide)
  have f0 := Int.mul_nonneg y0.1 (Int.sub_nonneg_of_le m0.2)
  have f1 := Int.mul_nonneg y1.1 (Int.sub_nonneg_of_le m1.2)
  have g0 := Int.mul_nonneg m0.1 (Int.sub_nonneg_of_le y0.2)
  have g1 := Int.mul_nonneg m1.1 (Int.sub_nonneg_of_le y1.2)
  clear y0 y1 m0 m1 hy hm
  subst hq ht
  grind
def gN (N : Nat) : Prop := N = 2 ∨ N = 3
theorem g_dual {N} (hN : gN N) (a : Nat → Nat → Int) (y m : Nat → Int) (p q t w : Int) (hy : ∀ j, j < N → 0 ≤ y j ∧ gS N (fun i => y i * a j i) ≤ p) (hq : gS N y = q)
    (hm : ∀ j, j < N → 0 ≤ m j ∧ w ≤ gS N (fun i => m i * a i j)) (ht : gS N m = t) : w * q ≤ p * t := by
  rcases hN with e | e <;> subst e
  · exact g_dual2 a y m p q t w hy hq hm ht
  · exact g_dual3 a y m p q t w hy hq hm ht
theorem g_floor (w q p t : Int) (hq : 0 < q) (ht : 0 < t) (h : w * q ≤ p * t) : (1000 * w) / t ≤ (1000 * p) / q := by
  refine Int.le_ediv_of_mul_le hq ?_
  have h1 := Int.ediv_mul_le (1000 * w) (Int.ne_of_gt ht)
  generalize (1000 * w) / t = z at *
  have h2 : z * q * t ≤ 1000 * p * t := by
    have := Int.mul_le_mul_of_nonneg_right h1 (Int.le_of_lt hq)
    grind
  exact Int.le_of_mul_le_mul_right h2 ht
theorem g_floor_ge (w p q : Int) (hq : 0 < q) (h : p ≤ w) : (1000 * p) / q ≤ (1000 * w) / q := Int.ediv_le_ediv hq (by omega)

