/-! ===== sails: which there are ===== -/
theorem c_165 {m : Nat} {A : Nat → Nat} {a : Int32} {μ : wm_M} {Q : Int32 → wm_M → Prop} (hC : CL m A μ) (h1 : ∀ i, i < A 2040 → a = nI i → Q 1 μ) (h0 : (∀ i, i < A 2040 → ¬ a = nI i) → Q 0 μ) : wm_OkI 0 165 [.ref 0, .int a] μ Q := by
  have hs := hC.1.sails
  refine s_165 ?_
  rw [hC.2.2.1.sails]
  by_cases q : 0 ≤ a ∧ a ≤ nI (A 2040) - 1
  · rw [bI_t q]
    obtain ⟨i, hi, e⟩ := (rg (by omega)).mp q
    exact h1 i hi e
  · rw [bI_f q]
    exact h0 (fun i hi e => q ((rg (by omega)).mpr ⟨i, hi, e⟩))
theorem m_191 {m : Nat} {A : Nat → Nat} {a : Int32} {μ : wm_M} {Q : Int32 → wm_M → Prop} (hB : BA m A) (hM : RM 91 A μ) (h1 : ∀ i, i < A 2040 → a = nI i → Q 1 μ) (h0 : (∀ i, i < A 2040 → ¬ a = nI i) → Q 0 μ) : wm_OkI 0 191 [.ref 89, .int a] μ Q := by
  have hs := hB.sails
  refine s_191 ?_
  rw [hM 2040 (by decide)]
  by_cases q : 0 ≤ a ∧ a ≤ nI (A 2040) - 1
  · rw [bI_t q]
    obtain ⟨i, hi, e⟩ := (rg (by omega)).mp q
    exact h1 i hi e
  · rw [bI_f q]
    exact h0 (fun i hi e => q ((rg (by omega)).mpr ⟨i, hi, e⟩))
/-! ===== paceOf ===== -/
theorem c_9 (k a v : Nat) (hk : k < 5) (ha : a < 5) (hv : v < 100) {μ : wm_M} {Q : Int32 → wm_M → Prop} (hq : Q (nI (pcA k a v)) μ) : wm_OkI 0 9 [.int (nI k), .int (nI a), .int (nI v)] μ Q := by
  have t := nI_toInt (show k < 2 ^ 31 by omega)
  have hq' : ∀ x, pcA k a v = x → Q (nI x) μ := fun x e => e ▸ hq
  refine v_9 _ _ _ μ _ ?_
  rw [t]
  simp (disch := omega) only [nl, nI_add, pk_mul, pk_sub, pk_div, rm_n, nI_clamp, vi_, nI_leI, nI_ltI, nI_eq, nI_sb, nI_eqm, nI_meq, Nat.zero_add, Nat.add_zero]
  refine ⟨fun a1 => ⟨by decide, fun a2 => by omega, fun a2 => ⟨by decide, fun z => w_9_86 _ _ _ ⟨_, rfl, hq' _ ?_⟩, fun z => w_9_68 _ _ _ ⟨_, rfl, hq' _ ?_⟩, fun z => w_9_70 _ _ _ ?_, fun z => w_9_74 _ _ _ ⟨_, rfl, hq' _ ?_⟩, fun z => w_9_77 _ _ _ ?_, trivial⟩⟩, fun a1 => ⟨by decide, fun a2 => w_9_33 _ _ _ _ _ ?_, fun a2 => by omega⟩⟩
  · unfold pcA jbA rnA; (repeat' split) <;> omega
  · unfold pcA jbA rnA; (repeat' split) <;> omega
  · simp (disch := omega) only [nl, nI_add, pk_mul, pk_sub, pk_div, rm_n, nI_clamp, vi_, nI_leI, nI_ltI, nI_eq, nI_sb, nI_eqm, nI_meq, Nat.zero_add, Nat.add_zero]
    exact ⟨by decide, _, rfl, hq' _ (by unfold pcA jbA rnA; (repeat' split) <;> omega)⟩
  · unfold pcA jbA rnA; (repeat' split) <;> omega
  · simp (disch := omega) only [nl, nI_add, pk_mul, pk_sub, pk_div, rm_n, nI_clamp, vi_, nI_leI, nI_ltI, nI_eq, nI_sb, nI_eqm, nI_meq, Nat.zero_add, Nat.add_zero]
    exact ⟨by decide, _, rfl, hq' _ (by unfold pcA jbA rnA; (repeat' split) <;> omega)⟩
  · rw [t]
    simp (disch := omega) only [nl, nI_add, pk_mul, pk_sub, pk_div, rm_n, nI_clamp, vi_, nI_leI, nI_ltI, nI_eq, nI_sb, nI_eqm, nI_meq, Nat.zero_add, Nat.add_zero]
    refine ⟨by decide, fun z => w_9_86 _ _ _ ⟨_, rfl, hq' _ ?_⟩, fun z => w_9_68 _ _ _ ⟨_, rfl, hq' _ ?_⟩, fun z => w_9_70 _ _ _ ?_, fun z => w_9_74 _ _ _ ⟨_, rfl, hq' _ ?_⟩, fun z => w_9_77 _ _ _ ?_, trivial⟩
    · unfold pcA jbA rnA; (repeat' split) <;> omega
    · unfold pcA jbA rnA; (repeat' split) <;> omega
    · simp (disch := omega) only [nl, nI_add, pk_mul, pk_sub, pk_div, rm_n, nI_clamp, vi_, nI_leI, nI_ltI, nI_eq, nI_sb, nI_eqm, nI_meq, Nat.zero_add, Nat.add_zero]
      exact ⟨by decide, _, rfl, hq' _ (by unfold pcA jbA rnA; (repeat' split) <;> omega)⟩
    · unfold pcA jbA rnA; (repeat' split) <;> omega
    · simp (disch := omega) only [nl, nI_add, pk_mul, pk_sub, pk_div, rm_n, nI_clamp, vi_, nI_leI, nI_ltI, nI_eq, nI_sb, nI_eqm, nI_meq, Nat.zero_add, Nat.add_zero]
      exact ⟨by decide, _, rfl, hq' _ (by unfold pcA jbA rnA; (repeat' split) <;> omega)⟩
theorem m_210 (a v : Nat) (ha : a < 5) (hv : v < 100) {μ : wm_M} {Q : Int32 → wm_M → Prop} (hq : Q (nI (jbA a v)) μ) : wm_OkI 0 210 [.int (nI a), .int (nI v)] μ Q := by
  have hq' : ∀ x, jbA a v = x → Q (nI x) μ := fun x e => e ▸ hq
  refine v_210 _ _ μ _ ?_
  simp (disch := omega) only [nl, nI_add, pk_mul, pk_sub, pk_div, rm_n, nI_clamp, vi_, nI_leI, nI_ltI, nI_eq, nI_sb, nI_eqm, nI_meq, Nat.zero_add, Nat.add_zero]
  refine ⟨fun z => w_210_15 _ _ _ ?_, fun z => ⟨by decide, _, rfl, hq' _ (by unfold jbA; (repeat' split) <;> omega)⟩⟩
  simp (disch := omega) only [nl, nI_add, pk_mul, pk_sub, pk_div, rm_n, nI_clamp, vi_, nI_leI, nI_ltI, nI_eq, nI_sb, nI_eqm, nI_meq, Nat.zero_add, Nat.add_zero]
  exact ⟨by decide, _, rfl, hq' _ (by unfold jbA; (repeat' split) <;> omega)⟩
theorem m_209 (k a v : Nat) (hk : k < 5) (ha : a < 5) (hv : v < 100) {μ : wm_M} {Q : Int32 → wm_M → Prop} (hq : Q (nI (pcA k a v)) μ) : wm_OkI 0 209 [.int (nI k), .int (nI a), .int (nI v)] μ Q := by
  have t := nI_toInt (show k < 2 ^ 31 by omega)
  have hq' : ∀ x, pcA k a v = x → Q (nI x) μ := fun x e => e ▸ hq
  have hj : jbA a v < 200 := by unfold jbA; (repeat' split) <;> omega
  refine v_209 _ _ _ μ _ ?_
  rw [t]
  refine ⟨fun z => w_209_107 _ _ _ ⟨_, rfl, hq' _ ?_⟩, fun z => w_209_32 _ _ _ _ ?_, fun z => w_209_55 _ _ _ _ (m_210 a v ha hv ?_), fun z => w_209_63 _ _ _ _ ?_, fun z => w_209_82 _ _ _ _ ?_, trivial⟩
  · unfold pcA; (repeat' split) <;> omega
  · simp (disch := omega) only [nl, nI_add, pk_mul, pk_sub, pk_div, rm_n, nI_clamp, vi_, nI_leI, nI_ltI, nI_eq, nI_sb, nI_eqm, nI_meq, Nat.zero_add, Nat.add_zero]
    refine ⟨fun y => w_209_47 _ _ _ ?_, fun y => ⟨by decide, _, rfl, hq' _ (by unfold pcA jbA rnA; (repeat' split) <;> omega)⟩⟩
    simp (disch := omega) only [nl, nI_add, pk_mul, pk_sub, pk_div, rm_n, nI_clamp, vi_, nI_leI, nI_ltI, nI_eq, nI_sb, nI_eqm, nI_meq, Nat.zero_add, Nat.add_zero]
    exact ⟨by decide, _, rfl, hq' _ (by unfold pcA jbA rnA; (repeat' split) <;> omega)⟩
  · simp (disch := omega) only [nl, nI_add, pk_mul, pk_sub, pk_div, rm_n, nI_clamp, vi_, nI_leI, nI_ltI, nI_eq, nI_sb, nI_eqm, nI_meq, Nat.zero_add, Nat.add_zero]
    exact ⟨by decide, _, rfl, hq' _ (by unfold pcA; (repeat' split) <;> omega)⟩
  · simp (disch := omega) only [nl, nI_add, pk_mul, pk_sub, pk_div, rm_n, nI_clamp, vi_, nI_leI, nI_ltI, nI_eq, nI_sb, nI_eqm, nI_meq, Nat.zero_add, Nat.add_zero]
    refine ⟨fun y => w_209_78 _ _ _ ?_, fun y => ⟨by decide, _, rfl, hq' _ (by unfold pcA jbA rnA; (repeat' split) <;> omega)⟩⟩
    simp (disch := omega) only [nl, nI_add, pk_mul, pk_sub, pk_div, rm_n, nI_clamp, vi_, nI_leI, nI_ltI, nI_eq, nI_sb, nI_eqm, nI_meq, Nat.zero_add, Nat.add_zero]
    exact ⟨by decide, _, rfl, hq' _ (by unfold pcA jbA rnA; (repeat' split) <;> omega)⟩
  · simp (disch := omega) only [nl, nI_add, pk_mul, pk_sub, pk_div, rm_n, nI_clamp, vi_, nI_leI, nI_ltI, nI_eq, nI_sb, nI_eqm, nI_meq, Nat.zero_add, Nat.add_zero]
    exact ⟨fun y => ⟨by decide, by decide, _, rfl, hq' _ (by unfold pcA jbA rnA; (repeat' split) <;> omega)⟩, fun y => ⟨by decide, by decide, _, rfl, hq' _ (by unfold pcA jbA rnA; (repeat' split) <;> omega)⟩⟩
theorem p_pace (a b c : Int32) {n : Nat} {μ : wm_M} (h : Rel n μ) : wm_OkI 0 124 [.ref 0, .int a, .int b, .int c] μ (Pr n 214 [.ref 89, .int a, .int b, .int c]) := by
  have h' := h
  obtain ⟨A, hA, hO⟩ := h
  have hC := hA.cl (Nat.le_refl n)
  have hM := hA.2.2.1
  have hs := hA.1.sails
  have hM3 : RM 91 A (rc_ μ 3) := hM.fr rfl
  have hM7 : RM 91 A (rc_ μ 7) := hM.fr rfl
  refine v_124 a b c μ _ (c_165 hC (fun i hi e => ⟨fun q => absurd q (by decide), fun _ => s_172 ⟨fun y => w_124_15 μ _ (s_161 3 (by decide) ⟨_, rfl, ?_⟩), fun y => w_124_22 _ _ _ μ _ (s_174 ⟨fun x => s_161 7 (by decide) ⟨_, rfl, ?_⟩, fun x => w_124_36 _ _ _ μ _ ?_⟩)⟩⟩) (fun z => ⟨fun _ => w_124_15 μ _ (s_161 3 (by decide) ⟨_, rfl, ?_⟩), fun q => absurd rfl q⟩))
  · exact v_214 _ _ _ _ _ (m_191 hA.1 hM3 (fun _ _ _ => ⟨fun q => absurd q (by decide), fun _ => s_184 ⟨fun _ => w_214_17 _ _ (s_185 3 (by decide) ⟨_, rfl, rfl, (h'.rf 3).up⟩), fun q => absurd y q⟩⟩) (fun z => absurd e (z i hi)))
  · exact v_214 _ _ _ _ _ (m_191 hA.1 hM7 (fun _ _ _ => ⟨fun q => absurd q (by decide), fun _ => s_184 ⟨fun q => absurd q y, fun _ => w_214_24 _ _ _ _ _ (s_184 ⟨fun _ => w_214_52 _ _ (s_185 7 (by decide) ⟨_, rfl, rfl, (h'.rf 7).up⟩), fun q => absurd x q⟩)⟩⟩) (fun z => absurd e (z i hi)))
  · subst e
    have y' := nz y
    have x' := nz x
    obtain ⟨j, hj, rfl⟩ := in_nI 4 (by decide) y'
    obtain ⟨v, hv, rfl⟩ := in_nI 99 (by decide) x'
    have hi3 : i < 3 := by omega
    rw [nI_clamp (by omega), hC.2.2.1.kind hi3]
    have bk := hA.1.kind hi3
    refine ⟨vp_in_nI hi3 (by decide), c_9 _ _ _ bk (by omega) (by omega) ⟨_, rfl, ?_⟩⟩
    refine v_214 _ _ _ _ _ (m_191 hA.1 hM (fun _ _ _ => ⟨fun q => absurd q (by decide), fun _ => s_184 ⟨fun q => absurd q y, fun _ => w_214_24 _ _ _ _ _ (s_184 ⟨fun q => absurd q x, fun _ => ?_⟩)⟩⟩) (fun z => absurd rfl (z i hi)))
    rw [show (449 : Int32) + nI i = nI (449 + i) from nI_add 449 i, nI_clamp (by omega), hM _ (by omega)]
    exact ⟨vp_in_nI (by omega) (by decide), m_209 _ _ _ bk (by omega) (by omega) ⟨_, rfl, rfl, h'.up⟩⟩
  · exact v_214 _ _ _ _ _ (m_191 hA.1 hM3 (fun i hi e => absurd e (z i hi)) (fun _ => ⟨fun _ => w_214_17 _ _ (s_185 3 (by decide) ⟨_, rfl, rfl, (h'.rf 3).up⟩), fun q => absurd rfl q⟩))
theorem p_sailOf (a c : Int32) {n : Nat} {μ : wm_M} (h : Rel n μ) : wm_OkI 0 125 [.ref 0, .int a, .int c] μ (Pr n 215 [.ref 89, .int a, .int c]) := by
  have h' := h
  obtain ⟨A, hA, hO⟩ := h
  have hC := hA.cl (Nat.le_refl n)
  have hM := hA.2.2.1
  have hs := hA.1.sails
  have hM3 : RM 91 A (rc_ μ 3) := hM.fr rfl
  have hM7 : RM 91 A (rc_ μ 7) := hM.fr rfl
  refine v_125 a c μ _ (c_165 hC (fun i hi e => ⟨fun q => absurd q (by decide), fun _ => w_125_15 _ _ μ _ ?_⟩) (fun z => ⟨fun _ => s_161 3 (by decide) ⟨_, rfl, ?_⟩, fun q => absurd rfl q⟩))
  · subst e
    have hi3 : i < 3 := by omega
    have bk := hA.1.kind hi3
    have ent : ∀ {ν : wm_M} {Q : Int32 → wm_M → Prop}, RM 91 A ν → wm_Wp 0 215 15 [.ref 89, .int (nI i), .int c] ν (fun w κ => ∃ x, w = some (.int x) ∧ Q x κ) → wm_OkI 0 215 [.ref 89, .int (nI i), .int c] ν Q := fun {ν Q} hM w => v_215 _ _ ν _ (m_191 hA.1 hM (fun _ _ _ => ⟨fun q => absurd q (by decide), fun _ => w⟩) (fun z => absurd rfl (z i hi)))
    have rd : ∀ b, b ≤ 452 → vp_in (nI b + nI i) 2060 ∧ μ.1 91 (nI b + nI i).toNatClampNeg = nI (A (b + i)) := fun b hb => by
      rw [nI_add, nI_clamp (by omega), hM _ (by omega)]; exact ⟨vp_in_nI (by omega) (by decide), rfl⟩
    have vi3 : vp_in (nI i) 3 := vp_in_nI hi3 (by decide)
    have hc := nI_clamp (n := i) (by omega)
    refine ⟨fun q => w_125_85 μ _ (s_161 7 (by decide) ⟨_, rfl, ent hM7 (w_215_15 _ _ _ _ ⟨fun _ => w_215_72 _ _ (s_185 7 (by decide) ⟨_, rfl, rfl, (h'.rf 7).up⟩), fun r => by omega, fun r => by omega, fun r => by omega, trivial⟩)⟩), fun q => w_125_44 _ μ _ ⟨vi3, _, rfl, ent hM (w_215_15 _ _ _ _ ⟨fun r => by omega, fun _ => w_215_44 _ _ _ ⟨(rd 449 (by decide)).1, _, rfl, ?_, h'.up⟩, fun r => by omega, fun r => by omega, trivial⟩)⟩, fun q => w_125_57 _ μ _ (s_6 i _ hi3 bk (hC.2.2.1.kind hi3) ⟨_, rfl, ent hM (w_215_15 _ _ _ _ ⟨fun r => by omega, fun r => by omega, fun _ => w_215_55 _ _ _ (s_212 i _ hi3 bk (hM _ (by omega)) ⟨_, rfl, rfl, h'.up⟩), fun r => by omega, trivial⟩)⟩), fun q => w_125_69 _ μ _ ⟨vi3, s_177 ⟨_, rfl, ent hM (w_215_15 _ _ _ _ ⟨fun r => by omega, fun r => by omega, fun r => by omega, fun _ => w_215_61 _ _ _ ⟨(rd 452 (by decide)).1, _, rfl, ?_, h'.up⟩, trivial⟩)⟩⟩, trivial⟩
    · rw [hc]; exact (hC.2.2.1.kind hi3).trans (rd 449 (by decide)).2.symm
    · rw [hc, hC.2.2.1.torn hi3, bI_nI (hA.1.torn hi3)]; exact (rd 452 (by decide)).2.symm
  · exact v_215 _ _ _ _ (m_191 hA.1 hM3 (fun i hi e => absurd e (z i hi)) (fun _ => ⟨fun _ => s_185 3 (by decide) ⟨_, rfl, rfl, (h'.rf 3).up⟩, fun q => absurd rfl q⟩))
