/-! ===== comes ===== -/
theorem p_comes (a b : Int32) {n : Nat} (hn : n < 8000) {μ : wm_M} (h : Rel n μ) : wm_OkI 0 139 [.ref 0, .int a, .int b] μ (Pr n 269 [.ref 89, .int a, .int b]) := by
  have h' := h
  obtain ⟨A, hA, hO⟩ := h
  have hM := hA.2.2.1
  have hV := hA.2.2.2.1.2.2.rv
  have bt := hA.1.tick
  have ch := chA_le hA.1
  have hMr : ∀ k, RM 91 A (wm_si μ 88 k (μ.1 88 k + 1)) := fun k => hM.fr rfl
  have e6 : ∀ {ν : wm_M}, RM 91 A ν → ν.1 91 (2040 + 6) = nI (A 2046) := fun h => h 2046 (by decide)
  have e10 : ∀ {ν : wm_M}, RM 91 A ν → ν.1 91 (2040 + 10) = nI (A 2050) := fun h => h 2050 (by decide)
  refine v_139 _ _ _ _ ?_
  rw [hA.2.2.2.1.1.put]
  refine ⟨fun z => s_161 2 (by decide) ⟨_, rfl, v_269 _ _ _ _ (s_188 6 (by decide) ⟨fun _ => s_185 2 (by decide) ⟨_, rfl, rfl, (h'.rf 2).up⟩, fun q => absurd ((e6 (hMr 2)).trans z) q⟩)⟩, fun z => w_139_20 _ _ _ _ ⟨n10, n10, ?_⟩⟩
  have rr : ∀ Q', wm_Wp 0 269 43 [.ref 89, .null, .null] (wm_si μ 88 3 (μ.1 88 3 + 1)) (fun v ν => ∃ x, v = some (.int x) ∧ Q' x ν) → (a < 0 ∨ ¬ a < 0 ∧ (3 ≤ a / 10 ∨ ¬ 3 ≤ a / 10 ∧ (3 ≤ a - a / 10 * 10 ∨ ¬ 3 ≤ a - a / 10 * 10 ∧ ¬ ir 5 b))) → wm_OkI 0 269 [.ref 89, .int a, .int b] (wm_si μ 88 3 (μ.1 88 3 + 1)) Q' := fun Q' w r => by
    have lt2 : ∀ x : Int32, 3 ≤ x ↔ (2 : Int32) < x := fun x => by
      rw [Int32.le_iff_toInt_le, Int32.lt_iff_toInt_lt]
      have e3 : (3 : Int32).toInt = 3 := by decide +kernel
      have e2 : (2 : Int32).toInt = 2 := by decide +kernel
      omega
    refine v_269 _ _ _ _ (s_188 6 (by decide) ⟨fun q => absurd ((e6 (hMr 3)).symm.trans q) z, fun _ => w_269_16 _ _ _ _ ⟨fun _ => w, fun q => ⟨n10, fun _ => w, fun q1 => ⟨n10, fun _ => w, fun q2 => s_262 ⟨fun _ => w, fun q3 => ?_⟩⟩⟩⟩⟩)
    rcases r with r | ⟨_, r | ⟨_, r | ⟨_, r⟩⟩⟩
    · exact absurd r q
    · exact absurd ((lt2 _).mp r) q1
    · exact absurd ((lt2 _).mp r) q2
    · exact absurd (nz q3) r
  have ref3 : (a < 0 ∨ ¬ a < 0 ∧ (3 ≤ a / 10 ∨ ¬ 3 ≤ a / 10 ∧ (3 ≤ a - a / 10 * 10 ∨ ¬ 3 ≤ a - a / 10 * 10 ∧ ¬ ir 5 b))) → wm_Wp 0 139 53 [.ref 0, .null, .null, .null, .null] μ (fun v ν => ∃ x, v = some (.int x) ∧ Pr n 269 [.ref 89, .int a, .int b] x ν) := fun r => w_139_53 _ _ (s_161 3 (by decide) ⟨_, rfl, rr _ (w_269_43 _ _ (s_185 3 (by decide) ⟨_, rfl, rfl, (h'.rf 3).up⟩)) r⟩)
  refine ⟨fun q => ref3 (Or.inl q), fun q => ⟨fun q1 => ref3 (Or.inr ⟨q, Or.inl q1⟩), fun q1 => ⟨fun q2 => ref3 (Or.inr ⟨q, Or.inr ⟨q1, Or.inl q2⟩⟩), fun q2 => s_170 ⟨fun q3 => ref3 (Or.inr ⟨q, Or.inr ⟨q1, Or.inr ⟨q2, fun r => bI_0.mp q3 r⟩⟩⟩), fun q3 => w_139_60 _ _ _ _ _ ?_⟩⟩⟩⟩
  obtain ⟨w, hw, rfl⟩ := in_nI 5 (by decide) (nz q3)
  obtain ⟨k, hk, rfl⟩ := nI_of q
  have hp : A 2046 = 1 := put_01 hA.1 (fun q => z (by rw [q]; rfl))
  have ed : nI k / (10 : Int32) = nI (k / 10) := dv10 hk
  have er : nI k - nI k / (10 : Int32) * (10 : Int32) = nI (k % 10) := pk_rem (d := 10) hk (by decide) (by decide)
  rw [er] at q2 ⊢
  rw [ed] at q1 ⊢
  have c3 : k / 10 < 3 := Nat.lt_of_not_le (fun r => q1 ((nI_leI (a := 3) (by decide) (by omega)).mpr r))
  have d3 : k % 10 < 3 := Nat.lt_of_not_le (fun r => q2 ((nI_leI (a := 3) (by decide) (by omega)).mpr r))
  refine c_17r hA hO (fun ν hAν hOν hK _ => c_49 (hAν.cl (Nat.le_refl n)) (fun κ hF => ?_))
  have hAκ : RA n A κ := hAν.sm (hF.sm (fun _ => rfl) (fun _ => rfl))
  have hOκ : RO n κ := hOν.sm (hF.sm (fun _ => rfl) (fun _ => rfl))
  refine c_28 w (chA A) (k / 10) (k % 10) (by omega) (by omega) (by omega) c3 d3 hAκ hOκ (askd_of (hF 63 (by decide) (by decide)) (hF 64 (by decide) (by decide)) hK) hp (fun ξ hAξ hOξ => ⟨_, rfl, ?_⟩)
  have hRξ : Rel n ξ := ⟨A, hAξ, hOξ⟩
  have hMξ := hAξ.2.2.1
  refine v_269 _ _ _ _ (s_188 6 (by decide) ⟨fun q => absurd ((e6 hMξ).symm.trans q) z, fun _ => w_269_16 _ _ _ _ ⟨fun y => absurd y q, fun _ => ⟨n10, ?_⟩⟩⟩)
  rw [er, ed]
  refine ⟨fun y => absurd ((nI_ltI (a := 2) (by decide) (by omega)).mp y) (by omega), fun _ => ⟨n10, fun y => absurd ((nI_ltI (a := 2) (by decide) (by omega)).mp y) (by omega), fun _ => s_262 ⟨fun y => absurd (nz q3) (bI_0.mp y), fun _ => w_269_50 _ _ _ _ (s_188 10 (by decide) ?_)⟩⟩⟩
  rw [e10 hMξ]
  refine m_246 (A 2050) (by omega) hA.1 hV hMξ (fun η hL hS => ?_)
  have hMη : RM 91 A η := fun j hj => (hS 91 j rfl).trans (hMξ j hj)
  refine m_222 hA.1 hA.2.1 hV hMη (by omega) (fun ρ hW => ?_)
  have hMρ : RM 91 A ρ := fun j hj => (hW 91 j rfl).trans (hMη j hj)
  have hLρ : LR A (hq (A 2050)) 1296 ρ := fun hr c k a b d e f => by rw [hW 93 _ rfl, hW 94 _ rfl]; exact hL hr c k a b d e f
  refine m_267 w (chA A) (by omega) (by omega) (by omega) hA.1 hA.2.1 hp hMρ hLρ (fun σ _ h98 _ _ hX => ⟨n10, n10, ?_⟩)
  have hRσ : Rel n σ := ((hRξ.sm (hS.le (fun _ _ q => kR_L q))).sm (hW.le (fun _ _ q => kR_W q))).sm (hX.sm.le (fun _ _ q => kR_S q))
  rw [er, ed, show (((9 : Int32) * nI w) + ((3 : Int32) * nI (k / 10))) + nI (k % 10) = nI (9 * w + 3 * (k / 10) + k % 10) by simp (disch := omega) only [nl, nI_add, pk_mul, pk_sub, pk_div, rm_n, nI_clamp, vi_, nI_leI, nI_ltI, nI_eq, nI_sb, nI_eqm, nI_meq, Nat.zero_add, Nat.add_zero], nI_clamp (show 9 * w + 3 * (k / 10) + k % 10 < 2 ^ 31 by omega), h98 _ _ c3 d3]
  exact ⟨vp_in_nI (by omega) (by decide), _, rfl, rfl, hRσ.up⟩
