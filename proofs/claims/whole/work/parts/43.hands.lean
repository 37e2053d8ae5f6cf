/-! ===== taken ===== -/
def unA (k u : Nat) : Prop := k = u ∨ (k = 1 ∧ u = 0) ∨ (k = 2 ∧ u = 1) ∨ (k = 2 ∧ u = 0) ∨ (k = 3 ∧ u = 0) ∨ (k = 4 ∧ u = 3) ∨ (k = 4 ∧ u = 0)
theorem l8_0 (u l : Nat) (hu : u < 5) (hl : l < 5) {μ : wm_M} {Q : Int32 → wm_M → Prop} (h1 : 0 = u → Q 1 μ) (h0 : ¬ 0 = u → Q 0 μ) : wm_Wp 0 8 4 [.null, .int (nI u), .int (nI 0), .int (nI l)] μ (fun v ν => ∃ x, v = some (.int x) ∧ Q x ν) := by
  refine w_8_4 _ _ _ _ _ ⟨fun z => absurd z (nI_ge (a := l) (b := 5) (by omega) (by decide)), fun _ => ⟨fun z => absurd z (by decide), fun _ => ⟨fun z => ⟨o01, _, rfl, h1 ((nI_eq (by omega) (by omega)).mp z)⟩, fun z => w_8_21 _ _ _ _ _ ⟨vp_in_nI (by decide) (by decide), ?_⟩⟩⟩⟩
  have hz : ¬ 0 = u := fun q => z (by rw [← q])
  refine w_8_4 _ _ _ _ _ ⟨fun _ => w_8_33 _ _ ⟨z01, _, rfl, h0 hz⟩, fun _ => ⟨fun _ => w_8_33 _ _ ⟨z01, _, rfl, h0 hz⟩, fun q => absurd (by decide +kernel) q⟩⟩
theorem l8_s (k k' u l : Nat) (hk : k < 5) (hu : u < 5) (hl : l < 5) (hn : ([-1, 0, 1, 0, 3] : List Int32).getD k 0 = nI k') {μ : wm_M} {Q : Int32 → wm_M → Prop} (h1 : k = u → Q 1 μ) (h0 : ¬ k = u → wm_Wp 0 8 4 [.null, .int (nI u), .int (nI k'), .int (nI (l + 1))] μ (fun v ν => ∃ x, v = some (.int x) ∧ Q x ν)) : wm_Wp 0 8 4 [.null, .int (nI u), .int (nI k), .int (nI l)] μ (fun v ν => ∃ x, v = some (.int x) ∧ Q x ν) := by
  refine w_8_4 _ _ _ _ _ ⟨fun z => absurd z (nI_ge (a := l) (b := 5) (by omega) (by decide)), fun _ => ⟨fun z => absurd z (nI_ne (by omega)), fun _ => ⟨fun z => ⟨o01, _, rfl, h1 ((nI_eq (by omega) (by omega)).mp z)⟩, fun z => w_8_21 _ _ _ _ _ ⟨vp_in_nI hk (by decide), ?_⟩⟩⟩⟩
  rw [nI_clamp (by omega), hn, nI_1]
  exact h0 (fun q => z (by rw [q]))
theorem c_8 (k u : Nat) (hk : k < 5) (hu : u < 5) {μ : wm_M} {Q : Int32 → wm_M → Prop} (h1 : unA k u → Q 1 μ) (h0 : ¬ unA k u → Q 0 μ) : wm_OkI 0 8 [.int (nI k), .int (nI u)] μ Q := by
  refine v_8 _ _ _ _ ?_
  have hk' : k = 0 ∨ k = 1 ∨ k = 2 ∨ k = 3 ∨ k = 4 := by omega
  rcases hk' with rfl | rfl | rfl | rfl | rfl
  · exact l8_0 u 0 hu (by decide) (fun e => h1 (by unfold unA; omega)) (fun e => h0 (by unfold unA; omega))
  · exact l8_s 1 0 u 0 (by decide) hu (by decide) rfl (fun e => h1 (by unfold unA; omega)) (fun e => l8_0 u 1 hu (by decide) (fun f => h1 (by unfold unA; omega)) (fun f => h0 (by unfold unA; omega)))
  · exact l8_s 2 1 u 0 (by decide) hu (by decide) rfl (fun e => h1 (by unfold unA; omega)) (fun e => l8_s 1 0 u 1 (by decide) hu (by decide) rfl (fun f => h1 (by unfold unA; omega)) (fun f => l8_0 u 2 hu (by decide) (fun g => h1 (by unfold unA; omega)) (fun g => h0 (by unfold unA; omega))))
  · exact l8_s 3 0 u 0 (by decide) hu (by decide) rfl (fun e => h1 (by unfold unA; omega)) (fun e => l8_0 u 1 hu (by decide) (fun f => h1 (by unfold unA; omega)) (fun f => h0 (by unfold unA; omega)))
  · exact l8_s 4 3 u 0 (by decide) hu (by decide) rfl (fun e => h1 (by unfold unA; omega)) (fun e => l8_s 3 0 u 1 (by decide) hu (by decide) rfl (fun f => h1 (by unfold unA; omega)) (fun f => l8_0 u 2 hu (by decide) (fun g => h1 (by unfold unA; omega)) (fun g => h0 (by unfold unA; omega))))
theorem m_216 (k k' : Nat) (hk : (k = 1 ∧ k' = 0) ∨ (k = 2 ∧ k' = 1) ∨ (k = 3 ∧ k' = 0) ∨ (k = 4 ∧ k' = 3)) {μ : wm_M} {Q : Int32 → wm_M → Prop} (hq : Q (nI k') μ) : wm_OkI 0 216 [.int (nI k)] μ Q := by
  rcases hk with ⟨rfl, rfl⟩ | ⟨rfl, rfl⟩ | ⟨rfl, rfl⟩ | ⟨rfl, rfl⟩
  · exact v_216 _ _ _ ⟨fun z => absurd z (by decide), fun _ => w_216_8 _ _ _ ⟨fun z => absurd z (by decide), fun _ => w_216_17 _ _ _ ⟨fun z => absurd z (by decide), fun _ => w_216_26 _ _ ⟨_, rfl, hq⟩⟩⟩⟩
  · exact v_216 _ _ _ ⟨fun z => absurd z (by decide), fun _ => w_216_8 _ _ _ ⟨fun _ => ⟨_, rfl, hq⟩, fun z => absurd rfl z⟩⟩
  · exact v_216 _ _ _ ⟨fun z => absurd z (by decide), fun _ => w_216_8 _ _ _ ⟨fun z => absurd z (by decide), fun _ => w_216_17 _ _ _ ⟨fun z => absurd z (by decide), fun _ => w_216_26 _ _ ⟨_, rfl, hq⟩⟩⟩⟩
  · exact v_216 _ _ _ ⟨fun z => absurd z (by decide), fun _ => w_216_8 _ _ _ ⟨fun z => absurd z (by decide), fun _ => w_216_17 _ _ _ ⟨fun _ => ⟨_, rfl, hq⟩, fun z => absurd rfl z⟩⟩⟩
theorem l217_0 (x1 : Int32) (u : Nat) (hu : u < 5) {μ : wm_M} {Q : Option Value → wm_M → Prop} (h1 : 0 = u → wm_OkI 0 212 [.ref 89, .int x1] μ (fun r ν => Q (some (.int r)) ν)) (h0 : ¬ 0 = u → wm_Wp 0 217 73 [.ref 89, .null, .null, .null] μ Q) : wm_Wp 0 217 42 [.ref 89, .int x1, .int (nI u), .int (nI 0)] μ Q := by
  refine w_217_42 _ _ _ _ _ ⟨fun z => absurd z (by decide), fun _ => ⟨fun z => w_217_60 _ _ _ _ _ ⟨fun _ => h1 ((nI_eq (by omega) (by omega)).mp z), fun q => absurd z q⟩, fun z => v_216 _ _ _ ⟨fun _ => ⟨_, rfl, ?_⟩, fun q => absurd rfl q⟩⟩⟩
  have hz : ¬ 0 = u := fun q => z (by rw [← q])
  exact w_217_42 _ _ _ _ _ ⟨fun _ => w_217_60 _ _ _ _ _ ⟨fun q => absurd q.symm (nI_ne (by omega)), fun _ => h0 hz⟩, fun q => absurd rfl q⟩
theorem l217_s (x1 : Int32) (k k' u : Nat) (hk : (k = 1 ∧ k' = 0) ∨ (k = 2 ∧ k' = 1) ∨ (k = 3 ∧ k' = 0) ∨ (k = 4 ∧ k' = 3)) (hu : u < 5) {μ : wm_M} {Q : Option Value → wm_M → Prop} (h1 : k = u → wm_OkI 0 212 [.ref 89, .int x1] μ (fun r ν => Q (some (.int r)) ν)) (h0 : ¬ k = u → wm_Wp 0 217 42 [.ref 89, .int x1, .int (nI u), .int (nI k')] μ Q) : wm_Wp 0 217 42 [.ref 89, .int x1, .int (nI u), .int (nI k)] μ Q :=
  w_217_42 _ _ _ _ _ ⟨fun z => absurd z (nI_ne (by omega)), fun _ => ⟨fun z => w_217_60 _ _ _ _ _ ⟨fun _ => h1 ((nI_eq (by omega) (by omega)).mp z), fun q => absurd z q⟩, fun z => m_216 k k' hk (h0 (fun q => z (by rw [q])))⟩⟩
theorem l217 (x1 : Int32) (k u : Nat) (hk : k < 5) (hu : u < 5) {μ : wm_M} {Q : Option Value → wm_M → Prop} (h1 : unA k u → wm_OkI 0 212 [.ref 89, .int x1] μ (fun r ν => Q (some (.int r)) ν)) (h0 : ¬ unA k u → wm_Wp 0 217 73 [.ref 89, .null, .null, .null] μ Q) : wm_Wp 0 217 42 [.ref 89, .int x1, .int (nI u), .int (nI k)] μ Q := by
  have hk' : k = 0 ∨ k = 1 ∨ k = 2 ∨ k = 3 ∨ k = 4 := by omega
  rcases hk' with rfl | rfl | rfl | rfl | rfl
  · exact l217_0 x1 u hu (fun e => h1 (by unfold unA; omega)) (fun e => h0 (by unfold unA; omega))
  · exact l217_s x1 1 0 u (by decide) hu (fun e => h1 (by unfold unA; omega)) (fun e => l217_0 x1 u hu (fun f => h1 (by unfold unA; omega)) (fun f => h0 (by unfold unA; omega)))
  · exact l217_s x1 2 1 u (by decide) hu (fun e => h1 (by unfold unA; omega)) (fun e => l217_s x1 1 0 u (by decide) hu (fun f => h1 (by unfold unA; omega)) (fun f => l217_0 x1 u hu (fun g => h1 (by unfold unA; omega)) (fun g => h0 (by unfold unA; omega))))
  · exact l217_s x1 3 0 u (by decide) hu (fun e => h1 (by unfold unA; omega)) (fun e => l217_0 x1 u hu (fun f => h1 (by unfold unA; omega)) (fun f => h0 (by unfold unA; omega)))
  · exact l217_s x1 4 3 u (by decide) hu (fun e => h1 (by unfold unA; omega)) (fun e => l217_s x1 3 0 u (by decide) hu (fun f => h1 (by unfold unA; omega)) (fun f => l217_0 x1 u hu (fun g => h1 (by unfold unA; omega)) (fun g => h0 (by unfold unA; omega))))
theorem p_taken (a c : Int32) {n : Nat} {μ : wm_M} (h : Rel n μ) : wm_OkI 0 126 [.ref 0, .int a, .int c] μ (Pr n 217 [.ref 89, .int a, .int c]) := by
  have h' := h
  obtain ⟨A, hA, hO⟩ := h
  have hC := hA.cl (Nat.le_refl n)
  have hM := hA.2.2.1
  have hs := hA.1.sails
  have hMr : ∀ k, RM 91 A (rc_ μ k) := fun k => hM.fr rfl
  refine v_126 a c μ _ (c_165 hC (fun i hi e => ⟨fun q => absurd q (by decide), fun _ => w_126_15 _ _ μ _ (s_178 ⟨fun y => s_161 7 (by decide) ⟨_, rfl, ?_⟩, fun y => w_126_31 _ _ μ _ ?_⟩)⟩) (fun z => ⟨fun _ => s_161 3 (by decide) ⟨_, rfl, ?_⟩, fun q => absurd rfl q⟩))
  · exact v_217 _ _ _ _ (m_191 hA.1 (hMr 7) (fun _ _ _ => ⟨fun q => absurd q (by decide), fun _ => w_217_15 _ _ _ _ (s_184 ⟨fun _ => s_185 7 (by decide) ⟨_, rfl, rfl, (h'.rf 7).up⟩, fun q => absurd y q⟩)⟩) (fun z => absurd e (z i hi)))
  · subst e
    have hi3 : i < 3 := by omega
    have bk := hA.1.kind hi3
    have y' := nz y
    obtain ⟨u, hu, rfl⟩ := in_nI 4 (by decide) y'
    have ent : ∀ {ν : wm_M} {Q : Int32 → wm_M → Prop}, RM 91 A ν → wm_Wp 0 217 42 [.ref 89, .int (nI i), .int (nI u), .int (nI (A (449 + i)))] ν (fun w κ => ∃ x, w = some (.int x) ∧ Q x κ) → wm_OkI 0 217 [.ref 89, .int (nI i), .int (nI u)] ν Q := fun {ν Q} hM w => v_217 _ _ ν _ (m_191 hA.1 hM (fun _ _ _ => ⟨fun q => absurd q (by decide), fun _ => w_217_15 _ _ _ _ (s_184 ⟨fun q => absurd q y, fun _ => w_217_31 _ _ _ _ (by
      rw [show (449 : Int32) + nI i = nI (449 + i) from nI_add 449 i, nI_clamp (by omega), hM _ (by omega)]
      exact ⟨vp_in_nI (by omega) (by decide), w⟩)⟩)⟩) (fun z => absurd rfl (z i hi)))
    rw [nI_clamp (by omega), hC.2.2.1.kind hi3]
    refine ⟨vp_in_nI hi3 (by decide), c_8 _ u bk (by omega) (fun un => ⟨fun q => absurd q (by decide), fun _ => w_126_57 _ _ _ (s_6 i _ hi3 bk (hC.2.2.1.kind hi3) ⟨_, rfl, ent hM (l217 _ _ u bk (by omega) (fun _ => s_212 i _ hi3 bk (hM _ (by omega)) ⟨_, rfl, rfl, h'.up⟩) (fun q => absurd un q))⟩)⟩) (fun un => ⟨fun _ => s_161 5 (by decide) ⟨_, rfl, ent (hMr 5) (l217 _ _ u bk (by omega) (fun q => absurd q un) (fun _ => w_217_73 _ _ (s_185 5 (by decide) ⟨_, rfl, rfl, (h'.rf 5).up⟩)))⟩, fun q => absurd rfl q⟩)⟩
  · exact v_217 _ _ _ _ (m_191 hA.1 (hMr 3) (fun i hi e => absurd e (z i hi)) (fun _ => ⟨fun _ => s_185 3 (by decide) ⟨_, rfl, rfl, (h'.rf 3).up⟩, fun q => absurd rfl q⟩))
/-! ===== sail ===== -/
theorem CL.sails {m : Nat} {A : Nat → Nat} {μ : wm_M} (h : CL m A μ) {s : Nat} (hs : A 2040 = s) (h3 : s < 3) : CL m (uN A 2040 (s + 1)) (wm_si μ 13 10 (nI (s + 1))) := by
  obtain ⟨h1, h2, h4, h5, h6⟩ := h
  have b8 := h1.hands
  have b12 := h1.rules
  refine ⟨h1.w (show s + 1 < 4 by omega), ?_, h4.w_sails _, (h5.up (by omega) _ (by omega)).fr1 _ (by decide), (h6.up (by omega) _ (by omega)).fr1 _ (by decide)⟩
  obtain ⟨x1, x2, x3⟩ := h2
  refine ⟨fun i hi => ?_, ?_, ?_⟩
  · rw [uN_ne _ _ (by omega), uN_ne _ _ (by omega)]; exact x1 i hi
  · rw [uN_ne _ _ (by omega), uN_ne _ _ (by omega)]; exact x2
  · simp (disch := omega) only [uN_ne, uN_eq]
    intro q
    have := x3 q
    omega
theorem c_5 {m : Nat} {A : Nat → Nat} (k : Nat) (hk : k < 5) {μ : wm_M} {Q : Int32 → wm_M → Prop} (hC : CL m A μ) (h3 : A 2040 < 3) (hq : ∀ ν, CL m (uN (uN (uN A (449 + A 2040) k) (452 + A 2040) 0) 2040 (A 2040 + 1)) ν → Sm KM μ ν → Q (nI (A 2040)) ν) : wm_OkI 0 5 [.ref 13, .int (nI k)] μ Q := by
  have hi : vp_in (nI (A 2040)) 3 := vp_in_nI h3 (by decide)
  have hc := nI_clamp (n := A 2040) (by omega)
  have es : μ.1 13 10 = nI (A 2040) := hC.2.2.1.sails
  refine v_5 _ _ _ ?_
  rw [es, hc]
  have e2 : ∀ x, (wm_si μ 14 (A 2040) x).1 13 10 = nI (A 2040) := fun x => es
  rw [e2, hc, vn0]
  have e3 : ∀ x y, (wm_si (wm_si μ 14 (A 2040) x) 15 (A 2040) y).1 13 10 = nI (A 2040) := fun x y => es
  rw [e3, nI_1, si_same, show (1 : Int32) = nI 1 from rfl, pk_sub (by omega), Nat.add_sub_cancel]
  have c1 := hC.wr 14 0 449 3 (by decide) (by decide) (A 2040) h3 k (by rw [bd_kind _ h3]; omega) (by omega)
  have c2 := c1.wr 15 0 452 3 (by decide) (by decide) (A 2040) h3 0 (by rw [bd_torn _ h3]; omega) (by omega)
  have c3 := c2.sails (s := A 2040) (by rw [uN_ne _ _ (by omega), uN_ne _ _ (by omega)]) h3
  simp only [Nat.zero_add] at c3
  exact ⟨hi, hi, _, rfl, hq _ c3 ((((Sm.rf _ _).si rfl).si rfl).si rfl)⟩
theorem p_sail (a : Int32) {n : Nat} {μ : wm_M} (h : Rel n μ) : wm_OkI 0 123 [.ref 0, .int a] μ (Pr n 208 [.ref 89, .int a]) := by
  have h' := h
  obtain ⟨A, hA, hO⟩ := h
  have hs := hA.1.sails
  refine v_123 a μ _ (s_178 ⟨fun z => s_161 7 (by decide) ⟨_, rfl, v_208 _ _ _ (s_184 ⟨fun _ => s_185 7 (by decide) ⟨_, rfl, rfl, (h'.rf 7).up⟩, fun q => absurd z q⟩)⟩, fun z => w_123_16 _ _ _ ?_⟩)
  obtain ⟨k, hk, rfl⟩ := in_nI 4 (by decide) (nz z)
  have ent : ∀ {ν : wm_M} {Q : Int32 → wm_M → Prop}, RM 91 A ν → ((A 2040 = 3 → wm_OkI 0 185 [.ref 89, .int (-(nI 8))] ν Q) ∧ (¬ A 2040 = 3 → wm_Wp 0 208 32 [.ref 89, .int (nI k)] ν (fun w κ => ∃ x, w = some (.int x) ∧ Q x κ))) → wm_OkI 0 208 [.ref 89, .int (nI k)] ν Q := fun {ν Q} hM w => v_208 _ _ _ (s_184 ⟨fun q => absurd q z, fun _ => w_208_16 _ _ _ (s_188 0 (by decide) (by
    rw [hM _ (by decide)]
    exact ⟨fun q => (w.1 ((nI_eq (b := 3) (by omega) (by decide)).mp q)).mono (fun x κ hx => ⟨_, rfl, hx⟩), fun q => w.2 (fun e => q (by rw [e]; rfl))⟩))⟩)
  rw [hA.2.2.2.1.1.sails]
  refine ⟨fun y => w_123_37 _ _ _ (s_163 (c_5 k (by omega) (hA.cl (Nat.le_succ n)).ch ((nI_ltI (b := 3) (by omega) (by decide)).mp y) (fun ν hC hS => ⟨_, rfl, ?_⟩))), fun y => s_161 8 (by decide) ⟨_, rfl, ent (hA.2.2.1.fr rfl) ⟨fun _ => s_185 8 (by decide) ⟨rfl, (h'.rf 8).up⟩, fun q => absurd (Nat.le_antisymm (by omega) (Nat.le_of_not_lt (fun r => y ((nI_ltI (b := 3) (by omega) (by decide)).mpr r)))) q⟩⟩⟩
  have h3 : A 2040 < 3 := (nI_ltI (b := 3) (by omega) (by decide)).mp y
  have hM := hA.2.2.1.km hS
  refine ent hM ⟨fun q => by omega, fun _ => w_208_32 _ _ _ (s_188 0 (by decide) ?_)⟩
  rw [hM _ (by decide)]
  have a1 : (449 : Int32) + nI (A 2040) = nI (449 + A 2040) := nI_add 449 _
  have a2 : (452 : Int32) + nI (A 2040) = nI (452 + A 2040) := nI_add 452 _
  rw [show 2040 + 0 = 2040 from rfl, a1, nI_clamp (by omega)]
  have m1 := hM.w (449 + A 2040) k
  refine ⟨vp_in_nI (by omega) (by decide), s_188 0 (by decide) ?_⟩
  rw [m1 _ (by decide), uN_ne _ _ (by omega), show 2040 + 0 = 2040 from rfl, a2, nI_clamp (by omega)]
  have m2 := m1.w (452 + A 2040) 0
  have m2' : (wm_si (wm_si ν 91 (449 + A 2040) (nI k)) 91 (452 + A 2040) 0).1 91 2040 = nI (A 2040) := by
    rw [show (0 : Int32) = nI 0 from rfl, m2 _ (by decide), uN_ne _ _ (by omega), uN_ne _ _ (by omega)]
  rw [show ((2040 : Int32)).toNatClampNeg = 2040 from by decide +kernel, m2', nI_1]
  have m3 := m2.w 2040 (A 2040 + 1)
  refine ⟨vp_in_nI (by omega) (by decide), vp_in_nI (n := 2040) (by decide) (by decide), vp_in_nI (n := 2040) (by decide) (by decide), s_188 0 (by decide) ⟨_, rfl, ?_, Rel.fin3 hO hS (Nat.le_succ n) hC ((((Sm.rf _ _).si rfl).si rfl).si rfl) m3⟩⟩
  rw [si_same, show (1 : Int32) = nI 1 from rfl, pk_sub (by omega), Nat.add_sub_cancel]
