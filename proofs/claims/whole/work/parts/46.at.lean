/-! ===== at ===== -/
theorem nI_sT {a b : Nat} (ha : a < 2 ^ 31) (hb : b < 2 ^ 31) : (nI a - nI b).toInt = (a : Int) - b := by
  rw [Int32.toInt_sub, nI_toInt ha, nI_toInt hb]
  exact Int.bmod_eq_of_le (by omega) (by omega)
def okW (A : Nat → Nat) (a : Int32) : Prop := ∃ t : Nat, t < 2 ^ 31 ∧ a = nI t ∧ t / 100 < 36 ∧ t / 10 % 10 < 8 ∧ t % 10 < A 2040
theorem at_e (t : Nat) (ht : t < 2 ^ 31) : nI t / (100 : Int32) = nI (t / 100) ∧ (nI t / (10 : Int32)) - (nI t / (10 : Int32)) / (10 : Int32) * (10 : Int32) = nI (t / 10 % 10) ∧ nI t - nI t / (10 : Int32) * (10 : Int32) = nI (t % 10) := by
  refine ⟨pk_div (d := 100) ht (by decide) (by decide), ?_, rm10 ht⟩
  rw [dv10 ht]
  exact rm10 (show t / 10 < 2 ^ 31 by omega)
theorem c_145 {m : Nat} {A : Nat → Nat} {a b : Int32} {μ : wm_M} {Q : Option Value → wm_M → Prop} (hC : CL m A μ) (h0 : ¬ okW A a → wm_Wp 0 145 48 [.ref 0, .null, .null, .null, .null, .null] μ Q) (h1 : ∀ t, t < 2 ^ 31 → a = nI t → t / 100 < 36 → t / 10 % 10 < 8 → t % 10 < A 2040 → wm_Wp 0 145 55 [.ref 0, .null, .int b, .int (nI (t / 100)), .int (nI (t / 10 % 10)), .int (nI (t % 10))] μ Q) : wm_Ok 0 145 [.ref 0, .int a, .int b] μ Q := by
  have hs := hC.1.sails
  refine v_145 _ _ _ _ ⟨n100, n10, n10, n10, fun z => h0 (fun ⟨t, ht, e, _⟩ => absurd z (by rw [e]; exact nI_pos ht)), fun z => ?_⟩
  obtain ⟨t, ht, rfl⟩ := nI_of z
  have u : ∀ s, s < 2 ^ 31 → nI t = nI s → t = s := fun s hs e => (nI_eq ht hs).mp e
  obtain ⟨e1, e2, e3⟩ := at_e t ht
  rw [e1, e2, e3]
  refine s_167 ⟨fun y => h0 (fun ⟨s, hs', e, g1, g2, g3⟩ => ?_), fun y => s_168 ⟨fun x => h0 (fun ⟨s, hs', e, g1, g2, g3⟩ => ?_), fun x => c_165 hC (fun i hi e => ⟨fun q => absurd q (by decide), fun _ => ?_⟩) (fun w => ⟨fun _ => h0 (fun ⟨s, hs', e, g1, g2, g3⟩ => ?_), fun q => absurd rfl q⟩)⟩⟩
  · have := u s hs' e; subst this
    exact bI_0.mp y (nI_in2 (n := 35) (by omega) (by decide))
  · have := u s hs' e; subst this
    exact bI_0.mp x (nI_in2 (n := 7) (by omega) (by decide))
  · have y := (nI_leI (b := 35) (by omega) (by decide)).mp (nz y).2
    have x := (nI_leI (b := 7) (by omega) (by decide)).mp (nz x).2
    have := (nI_eq (by omega) (by omega)).mp e
    exact h1 t ht rfl (by omega) (by omega) (by omega)
  · have := u s hs' e; subst this
    exact w _ g3 rfl
theorem m_291 {m : Nat} {A : Nat → Nat} {a b : Int32} {μ : wm_M} {Q : Option Value → wm_M → Prop} (hB : BA m A) (hM : RM 91 A μ) (h0 : ¬ okW A a → wm_Wp 0 291 47 [.ref 89, .null, .null, .null, .null, .null] μ Q) (h1 : ∀ t, t < 2 ^ 31 → a = nI t → t / 100 < 36 → t / 10 % 10 < 8 → t % 10 < A 2040 → wm_Wp 0 291 54 [.ref 89, .null, .int b, .int (nI (t / 100)), .int (nI (t / 10 % 10)), .int (nI (t % 10))] μ Q) : wm_Ok 0 291 [.ref 89, .int a, .int b] μ Q := by
  have hs := hB.sails
  refine v_291 _ _ _ _ ⟨n100, n10, n10, n10, fun z => h0 (fun ⟨t, ht, e, _⟩ => absurd z (by rw [e]; exact nI_pos ht)), fun z => ?_⟩
  obtain ⟨t, ht, rfl⟩ := nI_of z
  have u : ∀ s, s < 2 ^ 31 → nI t = nI s → t = s := fun s hs e => (nI_eq ht hs).mp e
  obtain ⟨e1, e2, e3⟩ := at_e t ht
  rw [e1, e2, e3]
  have k8 : ((8 : Int32) ≤ nI (t / 10 % 10) ↔ 8 ≤ t / 10 % 10) := nI_leI (a := 8) (by decide) (by omega)
  refine s_189 ⟨fun y => h0 (fun ⟨s, hs', e, g1, g2, g3⟩ => ?_), fun y => ⟨fun x => h0 (fun ⟨s, hs', e, g1, g2, g3⟩ => ?_), fun x => m_191 hB hM (fun i hi e => ⟨fun q => absurd q (by decide), fun _ => ?_⟩) (fun w => ⟨fun _ => h0 (fun ⟨s, hs', e, g1, g2, g3⟩ => ?_), fun q => absurd rfl q⟩)⟩⟩
  · have := u s hs' e; subst this
    exact bI_0.mp y (nI_in2 (n := 35) (by omega) (by decide))
  · have := u s hs' e; subst this
    have := k8.mp x; omega
  · have y := (nI_leI (b := 35) (by omega) (by decide)).mp (nz y).2
    have x : ¬ 8 ≤ t / 10 % 10 := fun q => x (k8.mpr q)
    have := (nI_eq (by omega) (by omega)).mp e
    exact h1 t ht rfl (by omega) (by omega) (by omega)
  · have := u s hs' e; subst this
    exact w _ g3 rfl
def ptA (A : Nat → Nat) (c h s t : Nat) : Nat → Nat := uN (uN (uN (uN (uN (uN (uN A 2046 1) 2047 c) 2048 h) 2049 s) 2050 t) 2051 (st_ c h s)) 2052 t
theorem CL.put {m : Nat} {A : Nat → Nat} {μ : wm_M} (h : CL m A μ) {c d s t : Nat} (hc : c < 36) (hd : d < 8) (hs : s < A 2040) (ht : t ≤ 120) : CL m (ptA A c d s t) (wm_si (wm_si (wm_si (wm_si (wm_si (wm_si (wm_si μ 13 0 (nI 1)) 13 1 (nI c)) 13 2 (nI d)) 13 3 (nI s)) 13 4 (nI t)) 13 6 (nI (st_ c d s))) 13 7 (nI t)) := by
  obtain ⟨h1, h2, h3, h4, h5⟩ := h
  have b3 := h1.sails
  have b8 := h1.hands
  have b12 := h1.rules
  have hst : st_ c d s < 864 := by unfold st_; omega
  unfold ptA
  refine ⟨?_, ?_, ?_, ?_, ?_⟩
  · exact ((((((h1.w (k := 2046) (x := 1) (show 1 < 2 by decide)).w (k := 2047) (x := c) (show c < 36 by omega)).w (k := 2048) (x := d) (show d < 8 by omega)).w (k := 2049) (x := s) (show s < 3 by omega)).w (k := 2050) (x := t) (show t < 121 by omega)).w (k := 2051) (x := st_ c d s) (show st_ c d s < 864 from hst)).w (k := 2052) (x := t) (show t < 121 by omega)
  · obtain ⟨x1, x2, x3⟩ := h2
    refine ⟨fun i hi => ?_, ?_, ?_⟩
    · simp (disch := omega) only [uN_ne]; exact x1 i hi
    · simp (disch := omega) only [uN_ne, uN_eq]; intro q; omega
    · simp (disch := omega) only [uN_ne, uN_eq]
      intro _
      refine ⟨hs, ?_⟩
      unfold st_; omega
  · exact ((((((h3.w_put 1).w_cell c).w_heading d).w_sail s).w_tick t).w_pst _).w_ptick t
  · have u : ∀ (k x : Nat) (B : Nat → Nat) (ν : wm_M), B 2041 ≤ 8 → 2046 ≤ k → RS 0 B ν → RS 0 (uN B k x) ν := fun k x B ν hB hk hR => hR.up hB x (by omega)
    have r := u 2052 t _ _ (by simp (disch := omega) only [uN_ne]; omega) (by omega) (u 2051 (st_ c d s) _ _ (by simp (disch := omega) only [uN_ne]; omega) (by omega) (u 2050 t _ _ (by simp (disch := omega) only [uN_ne]; omega) (by omega) (u 2049 s _ _ (by simp (disch := omega) only [uN_ne]; omega) (by omega) (u 2048 d _ _ (by simp (disch := omega) only [uN_ne]; omega) (by omega) (u 2047 c _ _ (by simp (disch := omega) only [uN_ne]; omega) (by omega) (u 2046 1 _ _ (by omega) (by omega) h4))))))
    exact ((((((r.fr1 _ (by decide)).fr1 _ (by decide)).fr1 _ (by decide)).fr1 _ (by decide)).fr1 _ (by decide)).fr1 _ (by decide)).fr1 _ (by decide)
  · have u : ∀ (k x : Nat) (B : Nat → Nat) (ν : wm_M), B 2042 ≤ 12 → 2046 ≤ k → RR 0 B ν → RR 0 (uN B k x) ν := fun k x B ν hB hk hR => hR.up hB x (by omega)
    have r := u 2052 t _ _ (by simp (disch := omega) only [uN_ne]; omega) (by omega) (u 2051 (st_ c d s) _ _ (by simp (disch := omega) only [uN_ne]; omega) (by omega) (u 2050 t _ _ (by simp (disch := omega) only [uN_ne]; omega) (by omega) (u 2049 s _ _ (by simp (disch := omega) only [uN_ne]; omega) (by omega) (u 2048 d _ _ (by simp (disch := omega) only [uN_ne]; omega) (by omega) (u 2047 c _ _ (by simp (disch := omega) only [uN_ne]; omega) (by omega) (u 2046 1 _ _ (by omega) (by omega) h5))))))
    exact ((((((r.fr1 _ (by decide)).fr1 _ (by decide)).fr1 _ (by decide)).fr1 _ (by decide)).fr1 _ (by decide)).fr1 _ (by decide)).fr1 _ (by decide)
/-- boatState -/
theorem m_257 {A : Nat → Nat} {μ : wm_M} {Q : Int32 → wm_M → Prop} (hM : RM 91 A μ) (hq : Q (nI (bstA A)) μ) : wm_OkI 0 257 [.ref 89] μ Q := by
  refine v_257 _ _ (s_188 7 (by decide) (s_188 8 (by decide) (s_188 9 (by decide) ⟨_, rfl, ?_⟩)))
  rw [show μ.1 91 (2040 + 7) = nI (A 2047) from hM 2047 (by decide), show μ.1 91 (2040 + 8) = nI (A 2048) from hM 2048 (by decide), show μ.1 91 (2040 + 9) = nI (A 2049) from hM 2049 (by decide)]
  simp (disch := omega) only [nl, nI_add, pk_mul, pk_sub, pk_div, rm_n, nI_clamp, vi_, nI_leI, nI_ltI, nI_eq, nI_sb, nI_eqm, nI_meq, Nat.zero_add, Nat.add_zero]
  exact hq
theorem c_2 {m : Nat} {A : Nat → Nat} {μ : wm_M} {Q : Int32 → wm_M → Prop} (hC : CL m A μ) (hq : Q (nI (bstA A)) μ) : wm_OkI 0 2 [.ref 13] μ Q := by
  refine v_2 _ _ ?_
  rw [hC.2.2.1.cell, hC.2.2.1.heading, hC.2.2.1.sail]
  exact s_183 _ _ _ ⟨_, rfl, hq⟩
theorem p_at (a b : Int32) {n : Nat} {μ : wm_M} (h : Rel n μ) : wm_OkI 0 145 [.ref 0, .int a, .int b] μ (Pr n 291 [.ref 89, .int a, .int b]) := by
  have h' := h
  obtain ⟨A, hA, hO⟩ := h
  have hC := hA.cl (Nat.le_refl n)
  have hM := hA.2.2.1
  have hs := hA.1.sails
  have hMr : ∀ k, RM 91 A (wm_si μ 88 k (μ.1 88 k + 1)) := fun k => hM.fr rfl
  refine c_145 hC (fun z => w_145_48 _ _ (s_161 3 (by decide) ⟨_, rfl, m_291 hA.1 (hMr 3) (fun _ => w_291_47 _ _ (s_185 3 (by decide) ⟨_, rfl, rfl, (h'.rf 3).up⟩)) (fun t ht e g1 g2 g3 => absurd ⟨t, ht, e, g1, g2, g3⟩ z)⟩)) (fun t ht e g1 g2 g3 => ?_)
  have ent : ∀ {ν : wm_M} {Q : Int32 → wm_M → Prop}, RM 91 A ν → wm_Wp 0 291 54 [.ref 89, .null, .int b, .int (nI (t / 100)), .int (nI (t / 10 % 10)), .int (nI (t % 10))] ν (fun w κ => ∃ x, w = some (.int x) ∧ Q x κ) → wm_OkI 0 291 [.ref 89, .int a, .int b] ν Q := fun {ν Q} hM w => m_291 hA.1 hM (fun q => absurd ⟨t, ht, e, g1, g2, g3⟩ q) (fun t' ht' e' _ _ _ => by
    have : t' = t := ((nI_eq ht ht').mp (e.symm.trans e')).symm
    subst this; exact w)
  generalize t / 100 = c at g1 ent ⊢
  generalize t / 10 % 10 = d at g2 ent ⊢
  generalize t % 10 = s at g3 ent ⊢
  have bl := hA.1.land g1
  have bt := hA.1.torn (show s < 3 by omega)
  have r0 : ∀ {ν : wm_M}, RM 91 A ν → vp_in ((0 : Int32) + nI c) 2060 ∧ ν.1 91 ((0 : Int32) + nI c).toNatClampNeg = nI (A c) := fun {ν} hM => by
    rw [Int32.zero_add, nI_clamp (by omega), hM _ (by omega)]; exact ⟨vp_in_nI (by omega) (by decide), rfl⟩
  have r4 : ∀ {ν : wm_M}, RM 91 A ν → vp_in ((452 : Int32) + nI s) 2060 ∧ ν.1 91 ((452 : Int32) + nI s).toNatClampNeg = nI (A (452 + s)) := fun {ν} hM => by
    rw [show (452 : Int32) + nI s = nI (452 + s) from nI_add 452 s, nI_clamp (by omega), hM _ (by omega)]; exact ⟨vp_in_nI (by omega) (by decide), rfl⟩
  refine w_145_55 _ _ _ _ _ _ ?_
  rw [nI_clamp (by omega), hC.2.2.1.land g1]
  refine ⟨vp_in_nI g1 (by decide), fun z => w_145_77 _ _ _ _ _ _ ?_, fun z => s_161 5 (by decide) ⟨_, rfl, ent (hMr 5) (w_291_54 _ _ _ _ _ _ ⟨(r0 (hMr 5)).1, fun _ => s_185 5 (by decide) ⟨_, rfl, rfl, (h'.rf 5).up⟩, fun q => absurd ?_ q⟩)⟩⟩
  · have z : A c = 0 := (nI_eq (b := 0) (by omega) (by decide)).mp z
    have ent2 : ∀ {ν : wm_M} {Q : Int32 → wm_M → Prop}, RM 91 A ν → wm_Wp 0 291 73 [.ref 89, .null, .int b, .int (nI c), .int (nI d), .int (nI s)] ν (fun w κ => ∃ x, w = some (.int x) ∧ Q x κ) → wm_OkI 0 291 [.ref 89, .int a, .int b] ν Q := fun {ν Q} hM w => ent hM (w_291_54 _ _ _ _ _ _ ⟨(r0 hM).1, fun q => absurd ((r0 hM).2.symm.trans q) (by rw [z]; decide), fun _ => w⟩)
    rw [nI_clamp (by omega), hC.2.2.1.torn (by omega)]
    refine ⟨vp_in_nI (by omega) (by decide), fun y => s_175 ⟨fun x => w_145_100 _ _ (s_161 7 (by decide) ⟨_, rfl, ent2 (hMr 7) (w_291_73 _ _ _ _ _ _ ⟨(r4 (hMr 7)).1, fun _ => w_291_98 _ _ (s_185 7 (by decide) ⟨_, rfl, rfl, (h'.rf 7).up⟩), fun _ => s_184 ⟨fun _ => w_291_98 _ _ (s_185 7 (by decide) ⟨_, rfl, rfl, (h'.rf 7).up⟩), fun q => absurd x q⟩⟩)⟩), fun x => w_145_107 _ _ _ _ _ _ (s_163 (v_3 _ _ _ _ _ _ ⟨o01, ?_⟩))⟩, fun y => w_145_100 _ _ (s_161 7 (by decide) ⟨_, rfl, ent2 (hMr 7) (w_291_73 _ _ _ _ _ _ ⟨(r4 (hMr 7)).1, fun _ => w_291_98 _ _ (s_185 7 (by decide) ⟨_, rfl, rfl, (h'.rf 7).up⟩), fun q => absurd ((r4 (hMr 7)).2.trans ?_) q⟩)⟩)⟩
    · have y : A (452 + s) = 0 := (nI_eq (b := 0) (by omega) (by decide)).mp y
      have x' := nz x
      obtain ⟨k, hk, rfl⟩ := in_nI 120 (by decide) x'
      refine v_2 _ _ (s_183 c d s ⟨_, rfl, _, rfl, _, rfl, ?_⟩)
      have hC2 := (hA.cl (Nat.le_succ n)).ch.put g1 g2 g3 hk
      have hS : Sm KM (ch_ μ) _ := ((((((((Sm.rf KM (ch_ μ)).si (c := 13) (k := 0) (x := nI 1) rfl).si (c := 13) (k := 1) (x := nI c) rfl).si (c := 13) (k := 2) (x := nI d) rfl).si (c := 13) (k := 3) (x := nI s) rfl).si (c := 13) (k := 4) (x := nI k) rfl).si (c := 13) (k := 6) (x := nI (st_ c d s)) rfl).si (c := 13) (k := 7) (x := nI k) rfl)
      have hM2 := hM.km hS
      refine ent2 hM2 (w_291_73 _ _ _ _ _ _ ⟨(r4 hM2).1, fun q => absurd ((r4 hM2).2.symm.trans q) (by rw [y]; decide), fun _ => s_184 ⟨fun q => absurd q x, fun _ => w_291_105 _ _ _ _ _ _ ?_⟩⟩)
      have cl : ∀ j : Nat, j < 2060 → (nI j).toNatClampNeg = j := fun j hj => nI_clamp (by omega)
      have vv : ∀ j : Nat, j < 2060 → vp_in (nI j) 2060 := fun j hj => vp_in_nI hj (by decide)
      have m5 := ((((hM2.w 2046 1).w 2047 c).w 2048 d).w 2049 s).w 2050 k
      refine ⟨vv 2046 (by decide), vv 2047 (by decide), vv 2048 (by decide), vv 2049 (by decide), vv 2050 (by decide), ?_⟩
      rw [show (2046 : Int32).toNatClampNeg = 2046 from cl 2046 (by decide), show (2047 : Int32).toNatClampNeg = 2047 from cl 2047 (by decide), show (2048 : Int32).toNatClampNeg = 2048 from cl 2048 (by decide), show (2049 : Int32).toNatClampNeg = 2049 from cl 2049 (by decide), show (2050 : Int32).toNatClampNeg = 2050 from cl 2050 (by decide)]
      refine m_257 m5 ⟨vv 2051 (by decide), vv 2052 (by decide), ?_⟩
      rw [show (2051 : Int32).toNatClampNeg = 2051 from cl 2051 (by decide), show (2052 : Int32).toNatClampNeg = 2052 from cl 2052 (by decide)]
      have e1 : bstA (uN (uN (uN (uN (uN A 2046 1) 2047 c) 2048 d) 2049 s) 2050 k) = st_ c d s := by
        unfold bstA
        simp (disch := omega) only [uN_ne, uN_eq]
      rw [e1]
      have m7 := (m5.w 2051 (st_ c d s)).w 2052 k
      have e2 : bstA (ptA A c d s k) = st_ c d s := by
        unfold bstA ptA
        simp (disch := omega) only [uN_ne, uN_eq]
      refine m_257 m7 ⟨_, rfl, ?_, Rel.fin3 hO hS (Nat.le_succ n) hC2 ((((((((Sm.rf _ _).si rfl).si rfl).si rfl).si rfl).si rfl).si rfl).si rfl) m7⟩
      rw [show bstA (uN (uN (uN (uN (uN (uN (uN A 2046 1) 2047 c) 2048 d) 2049 s) 2050 k) 2051 (st_ c d s)) 2052 k) = st_ c d s from e2]
      rfl
    · have y : ¬ A (452 + s) = 0 := fun q => y (by rw [q]; rfl)
      rw [show A (452 + s) = 1 by omega]; rfl
  · have z : ¬ A c = 0 := fun q => z (by rw [q]; rfl)
    refine (r0 (hMr 5)).2.trans ?_
    rw [show A c = 1 by omega]; rfl
