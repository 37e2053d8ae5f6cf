/-! ===== soonest ===== -/
theorem kR_S {c i : Nat} (h : kR c i = true) : kS c i = true := by
  refine kS_of (fun e => ?_) (fun q => ?_)
  · subst e
    refine Decidable.byContradiction (fun q => ?_)
    have k : ∀ i, i ≤ 45 → 5 ≤ i → kR 89 i = false := by decide +kernel
    rw [k i (by omega) (by omega)] at h
    cases h
  · have k : ∀ d, (∀ i, kR d i = false) → c ≠ d := fun d hd r => by rw [r, hd i] at h; cases h
    have n1 := k 93 (fun _ => rfl)
    have n2 := k 94 (fun _ => rfl)
    have n3 := k 95 (fun _ => rfl)
    have n4 := k 96 (fun _ => rfl)
    have n5 := k 97 (fun _ => rfl)
    have n6 := k 98 (fun _ => rfl)
    have n7 := k 99 (fun _ => rfl)
    have n8 := k 100 (fun _ => rfl)
    have n9 := k 101 (fun _ => rfl)
    have n10 := k 102 (fun _ => rfl)
    have n11 := k 103 (fun _ => rfl)
    have n12 := k 104 (fun _ => rfl)
    have n13 := k 105 (fun _ => rfl)
    have n14 := k 106 (fun _ => rfl)
    have n15 := k 107 (fun _ => rfl)
    have n16 := k 108 (fun _ => rfl)
    have n17 := k 109 (fun _ => rfl)
    omega
theorem flag_ir {b : Int32} : (b = 0 ∨ b = 1) ↔ (0 ≤ b ∧ b ≤ nI 1) := by
  refine ⟨fun q => ?_, fun q => ?_⟩
  · rcases q with rfl | rfl
    · decide +kernel
    · decide +kernel
  · obtain ⟨i, hi, rfl⟩ := in_nI 1 (by decide) q
    have : i = 0 ∨ i = 1 := by omega
    rcases this with rfl | rfl
    · exact Or.inl rfl
    · exact Or.inr rfl
/-- asked, drawn, state, change: what soonest and plan begin with -/
theorem c_adc {n : Nat} {A : Nat → Nat} (w tab : Nat) (hw : w < 7) (ht : tab < 2) {μ : wm_M} {Q : Int32 → Int32 → Int32 → wm_M → Prop} (hA : RA n A μ) (hO : RO n μ) (hk : ∀ ν, RA n A ν → RO n ν → Chd n A w tab ν → Q (nI (bstA A)) (nI (A 2050)) (nI (chA A)) ν) : wm_OkV 0 17 [.ref 62] μ (fun μ1 => wm_OkV 0 19 [.ref 62, .int (nI w), .int (nI tab)] μ1 (fun μ2 => wm_OkI 0 2 [.ref 13] μ2 (fun r4 μ3 => wm_OkI 0 49 [.ref 1] μ3 (fun r6 μ5 => Q r4 (μ3.1 13 4) r6 μ5)))) := by
  refine c_ad w tab hw ht hA (fun ν hAν hK hD hZ => ?_)
  have hOν := hO.kq hZ.kq
  have hCν := hAν.cl (Nat.le_refl n)
  refine c_2 hCν (c_49 hCν (fun κ hF => ?_))
  rw [hCν.2.2.1.tick]
  have hAκ : RA n A κ := hAν.sm (hF.sm (fun _ => rfl) (fun _ => rfl))
  have hOκ : RO n κ := hOν.sm (hF.sm (fun _ => rfl) (fun _ => rfl))
  exact hk κ hAκ hOκ ⟨hAκ.cl (Nat.le_refl n), askd_of (hF 63 (by decide) (by decide)) (hF 64 (by decide) (by decide)) hK, drwn_of (hF 65 (by decide) (by decide)) (hF 66 (by decide) (by decide)) (hF 67 (by decide) (by decide)) hD, hOκ.2.2.2.2⟩
theorem bst_lt {n : Nat} {A : Nat → Nat} (hB : BA n A) : bstA A < 864 := by
  have := hB.cell
  have := hB.heading
  have := hB.sail
  unfold bstA st_
  omega
theorem bst_x {n : Nat} {A : Nat → Nat} (hB : BA n A) (hX : VX A) (hp : A 2046 = 1) : bstA A % 3 < A 2040 := by
  have h1 := hB.heading
  have h2 := hB.sail
  have h3 := (hX.2.2 hp).1
  unfold bstA
  rw [(sdec _ _ _ h1 h2).1]
  exact h3
theorem p_soonest (a b c : Int32) {n : Nat} (hn : n < 8000) {μ : wm_M} (h : Rel n μ) : wm_OkI 0 134 [.ref 0, .int a, .int b, .int c] μ (Pr n 260 [.ref 89, .int a, .int b, .int c]) := by
  have h' := h
  obtain ⟨A, hA, hO⟩ := h
  have hM := hA.2.2.1
  have hV := hA.2.2.2.1.2.2.rv
  have bt := hA.1.tick
  have ch := chA_le hA.1
  have hMr : ∀ k, RM 91 A (wm_si μ 88 k (μ.1 88 k + 1)) := fun k => hM.fr rfl
  have e6 : ∀ {ν : wm_M}, RM 91 A ν → ν.1 91 (2040 + 6) = nI (A 2046) := fun h => h 2046 (by decide)
  refine v_134 _ _ _ _ _ ?_
  rw [hA.2.2.2.1.1.put]
  refine ⟨fun z => s_161 2 (by decide) ⟨_, rfl, v_260 _ _ _ _ _ (s_188 6 (by decide) ⟨fun _ => s_185 2 (by decide) ⟨_, rfl, rfl, (h'.rf 2).up⟩, fun q => absurd ((e6 (hMr 2)).trans z) q⟩)⟩, fun z => w_134_20 _ _ _ _ _ ?_⟩
  have ref3 : ¬ (ir 6 a ∧ ir 35 b) → wm_Wp 0 134 34 [.ref 0, .null, .null, .null, .null] μ (fun v ν => ∃ x, v = some (.int x) ∧ Pr n 260 [.ref 89, .int a, .int b, .int c] x ν) := fun q => by
    refine w_134_34 _ _ (s_161 3 (by decide) ⟨_, rfl, v_260 _ _ _ _ _ (s_188 6 (by decide) ⟨fun q => absurd ((e6 (hMr 3)).symm.trans q) z, fun _ => w_260_16 _ _ _ _ _ (v_259 _ _ _ (s_184 ⟨bI_01, _, rfl, fun _ => w_260_30 _ _ (s_185 3 (by decide) ⟨_, rfl, rfl, (h'.rf 3).up⟩), fun y => s_189 ⟨fun _ => w_260_30 _ _ (s_185 3 (by decide) ⟨_, rfl, rfl, (h'.rf 3).up⟩), fun x => absurd ⟨nz y, nz x⟩ q⟩⟩))⟩)⟩)
  refine s_169 ⟨fun q => ref3 (fun r => bI_0.mp q r.1), fun q => s_167 ⟨fun r => ref3 (fun r' => bI_0.mp r r'.2), fun r => w_134_41 _ _ _ _ _ (s_176 ⟨fun y => ?_, fun y => w_134_55 _ _ _ _ _ ?_⟩)⟩⟩
  · have nb : ¬ ir 1 c := fun t => bI_0.mp y (flag_ir.mpr t)
    refine s_161 7 (by decide) ⟨_, rfl, v_260 _ _ _ _ _ (s_188 6 (by decide) ⟨fun q => absurd ((e6 (hMr 7)).symm.trans q) z, fun _ => w_260_16 _ _ _ _ _ (v_259 _ _ _ (s_184 ⟨bI_01, _, rfl, fun x => absurd (nz q) (bI_0.mp x), fun _ => s_189 ⟨fun x => absurd (nz r) (bI_0.mp x), fun _ => w_260_37 _ _ _ _ _ (s_184 ⟨fun _ => s_185 7 (by decide) ⟨_, rfl, rfl, (h'.rf 7).up⟩, fun x => absurd (nz x) nb⟩)⟩⟩))⟩)⟩
  · obtain ⟨w, hw, rfl⟩ := in_nI 6 (by decide) (nz q)
    obtain ⟨cc, hcc, rfl⟩ := in_nI 35 (by decide) (nz r)
    obtain ⟨tab, htab, rfl⟩ := in_nI 1 (by decide) (flag_ir.mp (nz y))
    have hp : A 2046 = 1 := put_01 hA.1 (fun q => z (by rw [q]; rfl))
    refine c_adc (Q := fun r4 t r6 μ5 => wm_OkI 0 107 [.ref 69, .int r4, .int t, .int r6, .int (nI cc)] μ5 (fun r8 μ7 => ((r8 = (-1 : Int32) → ∃ x, some (Value.int (-1 : Int32)) = some (.int x) ∧ Pr n 260 [.ref 89, .int (nI w), .int (nI cc), .int (nI tab)] x μ7) ∧ (¬ r8 = (-1 : Int32) → wm_Wp 0 134 118 [.ref 0, .null, .null, .null, .int r8] μ7 (fun v ν => ∃ x, v = some (.int x) ∧ Pr n 260 [.ref 89, .int (nI w), .int (nI cc), .int (nI tab)] x ν))))) w tab (by omega) (by omega) hA hO (fun ν hAν hOν hC => ?_)
    have key : ∀ κ, F7 ν κ → ∀ x, x = soI A w tab cc → Pr n 260 [.ref 89, .int (nI w), .int (nI cc), .int (nI tab)] x κ := fun κ k x hx => by
      have hRκ : Rel n κ := ⟨A, hAν.f7 k, hOν.f7 k⟩
      exact m_260b w tab cc (by omega) (by omega) (by omega) hA.1 hA.2.1 hV (by omega) hp (hAν.f7 k).2.2.1 (fun ξ hS => ⟨hx, (hRκ.sm (hS.le (fun _ _ q => kR_S q))).up⟩)
    refine c_107 w tab (chA A) (bstA A) (A 2050) cc (by omega) (bst_lt hA.1) (by omega) (by omega) (by omega) (bst_x hA.1 hA.2.1 hp) (by omega) hC (fun κ k1 k2 => ⟨fun _ => ⟨_, rfl, key κ k1 _ ?_⟩, fun q => absurd rfl q⟩) (fun κ ℓ s T k1 k2 k3 k4 k5 k6 k7 k8 k9 => ⟨fun q => absurd q (nI_n1 k5), fun _ => w_134_118 _ _ _ ⟨vp_in_nI k5 (by decide), _, rfl, key κ k1 _ ?_⟩⟩)
    · unfold soI
      rw [k2]; rfl
    · unfold soI
      rw [k4, nI_clamp (show s < 2 ^ 31 by omega), (k2 s k5).2, k8]; rfl
