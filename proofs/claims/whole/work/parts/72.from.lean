/-! ===== the reference: ways from the boat; soonest ===== -/
theorem m_258 {m : Nat} {A : Nat → Nat} (w tab : Nat) (hw : w < 7) (htb : tab < 2) {μ : wm_M} {Q : wm_M → Prop} (hB : BA m A) (hX : VX A) (hV : RV A) (hm : m < 10000) (hp : A 2046 = 1) (hM : RM 91 A μ) (hk : ∀ ν ℓ, LabM ℓ ν → IsLab (stF A w tab) (whA A) (chA A) (bstA A) (A 2050) ℓ → LSt A w tab (hq (A 2050)) 10368 ν → ν.1 89 25 = nI (bstA A) → Sm kS μ ν → Q ν) : wm_OkV 0 258 [.ref 89, .int (nI w), .int (nI tab)] μ Q := by
  have bt := hB.tick
  have bc := hB.cell
  have bh := hB.heading
  have bsl := hB.sail
  have ch := chA_le hB
  have e10 : ∀ {ν : wm_M}, RM 91 A ν → ν.1 91 (2040 + 10) = nI (A 2050) := fun h => h 2050 (by decide)
  obtain ⟨s1, s2, s3⟩ := sdec (A 2047) (A 2048) (A 2049) bh bsl
  refine v_258 _ _ _ _ (s_188 10 (by decide) ?_)
  rw [e10 hM]
  refine m_246 (A 2050) (by omega) hB hV hM (fun ν hL hS => s_188 10 (by decide) ?_)
  have hM1 : RM 91 A ν := fun j hj => (hS 91 j rfl).trans (hM j hj)
  rw [e10 hM1]
  refine m_250 w tab (A 2050) hw htb (by omega) hB hX hM1 hL (fun κ hT hF => ?_)
  have hM2 : RM 91 A κ := hM1.fr (hF 91 (by decide))
  refine m_222 hB hX hV hM2 hm (fun ξ hW => ?_)
  have hM3 : RM 91 A ξ := fun j hj => (hW 91 j rfl).trans (hM2 j hj)
  have hT3 : LSt A w tab (hq (A 2050)) 10368 ξ := fun hr s a b c d => (hW 95 _ rfl).trans (hT hr s a b c d)
  refine m_257 hM3 (s_188 10 (by decide) ?_)
  rw [e10 hM3]
  refine m_252 w tab (chA A) (bstA A) (A 2050) (by unfold bstA st_; omega) (by omega) (by omega) (by omega) (by unfold bstA; rw [s1]; exact (hX.2.2 hp).1) hB (hq (A 2050)) (Nat.le_refl _) hM3 hT3 (fun η ℓ k1 k2 k3 k4 k5 => ⟨rfl, hk η ℓ k1 k2 (fun hr s a b c d => by rw [k5 95 (by decide) (by decide)]; exact hT3 hr s a b c d) k3 ?_⟩)
  intro c i q
  have q1 : ¬ (93 ≤ c ∧ c ≤ 109) := fun r => by
    unfold kS at q
    simp only [Bool.and_eq_true, Bool.not_eq_true', Bool.and_eq_false_iff, Nat.ble_eq, Bool.eq_false_iff, ne_eq, Nat.beq_eq] at q
    omega
  have q2 : c = 89 → i ≠ 25 := fun r z => by
    subst r; subst z
    exact absurd q (by decide)
  have e1 : ν.1 c i = μ.1 c i := hS c i (kS_L q)
  have e2 : κ.1 c = ν.1 c := hF c (by omega)
  have e3 : ξ.1 c i = κ.1 c i := hW c i (kL_W (kS_L q))
  have e4 : η.1 c i = ξ.1 c i := by
    by_cases z : c = 89
    · subst z; exact k4 i (q2 rfl)
    · rw [k5 c (by omega) z]
  rw [e4, e3, e2, e1]
/-- soonest, as both sides answer it -/
noncomputable def soI (A : Nat → Nat) (w tab c : Nat) : Int32 := lto ((wyA A w tab (chA A) (bstA A) (A 2050) c).map (fun r => r.2)) nI (-1)
theorem m_260b {m : Nat} {A : Nat → Nat} (w tab c : Nat) (hw : w < 7) (htb : tab < 2) (hc : c < 36) {μ : wm_M} {Q : Int32 → wm_M → Prop} (hB : BA m A) (hX : VX A) (hV : RV A) (hm : m < 10000) (hp : A 2046 = 1) (hM : RM 91 A μ) (hk : ∀ ν, Sm kS μ ν → Q (soI A w tab c) ν) : wm_OkI 0 260 [.ref 89, .int (nI w), .int (nI c), .int (nI tab)] μ Q := by
  have bt := hB.tick
  have e6 : μ.1 91 (2040 + 6) = nI (A 2046) := hM 2046 (by decide)
  have body : ∀ (Q' : Option Value → wm_M → Prop), (∀ ν, Sm kS μ ν → Q' (some (.int (soI A w tab c))) ν) → wm_OkV 0 258 [.ref 89, .int (nI w), .int (nI tab)] μ (fun μ1 => wm_OkI 0 254 [.ref 89, .int (nI c)] μ1 (fun r3 μ2 => ((r3 = (-1 : Int32) → Q' (some (.int (-1 : Int32))) μ2) ∧ (¬ r3 = (-1 : Int32) → wm_Wp 0 260 85 [.ref 89, .null, .null, .null, .int r3] μ2 Q')))) := fun Q' hk => by
    refine m_258 w tab hw htb hB hX hV hm hp hM (fun ν ℓ k1 k2 _ _ hS => m_254 c hc k1 ?_)
    have hk := hk ν hS
    unfold soI at hk
    rw [wy_eq k2 (by omega) hc] at hk
    cases ho : eo ℓ c 24 with
    | none =>
      rw [ho] at hk
      exact ⟨fun _ => hk, fun q => absurd rfl q⟩
    | some s =>
      rw [ho] at hk
      obtain ⟨r1, r2, r3⟩ := eo_in 24 ho
      obtain ⟨p1, p2⟩ := k1 s (by omega)
      rw [if_neg r3] at p2
      refine ⟨fun q => absurd q.symm (fun q => (nI_meq (a := s) (b := 1) (by omega) (by decide) (by decide)).mp q), fun _ => w_260_85 _ _ _ ⟨vp_in_nI (n := s) (by omega) (by decide), ?_⟩⟩
      rw [show lto (some s) nI (-1) = nI s from rfl, nI_clamp (show s < 2 ^ 31 by omega), p2]
      exact hk
  refine v_260 _ _ _ _ _ (s_188 6 (by decide) ⟨fun q => absurd (e6.symm.trans q) (by rw [hp]; decide), fun _ => w_260_16 _ _ _ _ _ (v_259 _ _ _ (s_184 ⟨bI_01, _, rfl, ?_⟩))⟩)
  refine ⟨fun q => absurd ⟨nI_le (a := 0) (by omega) (by omega), nI_le (b := 6) (by omega) (by decide)⟩ (bI_0.mp q), fun _ => ?_⟩
  refine s_189 ⟨fun q => absurd ⟨nI_le (a := 0) (by omega) (by omega), nI_le (b := 35) (by omega) (by decide)⟩ (bI_0.mp q), fun _ => w_260_37 _ _ _ _ _ (s_184 ⟨fun q => absurd ⟨nI_le (a := 0) (by omega) (by omega), nI_le (b := 1) (by omega) (by decide)⟩ (bI_0.mp q), fun _ => w_260_53 _ _ _ _ _ ?_⟩)⟩
  have : tab = 0 ∨ tab = 1 := by omega
  rcases this with rfl | rfl
  · exact ⟨fun q => absurd q (by decide), fun _ => body (fun v μ => ∃ x, v = some (.int x) ∧ Q x μ) (fun ν hS => ⟨_, rfl, hk ν hS⟩)⟩
  · exact ⟨fun _ => body (fun v μ => ∃ x, v = some (.int x) ∧ Q x μ) (fun ν hS => ⟨_, rfl, hk ν hS⟩), fun q => absurd rfl q⟩
