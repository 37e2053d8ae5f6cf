/-! the pair rule -/
theorem kR_Ft {c i : Nat} (h : kR c i = true) : kFt c i = true := by
  unfold kFt
  simp only [Bool.and_eq_true, Bool.not_eq_true', Bool.eq_false_iff, ne_eq, Nat.beq_eq, Nat.ble_eq]
  refine ⟨fun e => ?_, fun e => ?_⟩
  · subst e
    exact absurd (show false = true from h) (by decide)
  · obtain ⟨e1, e2, e3⟩ := e
    subst e1
    rcases (by omega : i = 3 ∨ i = 4 ∨ i = 5 ∨ i = 6 ∨ i = 7 ∨ i = 8 ∨ i = 9) with e | e | e | e | e | e | e <;> subst e <;> exact absurd h (by decide)
theorem kR_U {c i : Nat} (h : kR c i = true) : kU c i = true ∧ ¬ (c = 89 ∧ (i = 14 ∨ i = 15 ∨ i = 16)) := by
  by_cases e : c = 89
  · subst e
    have : ¬ (5 ≤ i ∧ i ≤ 20) := by
      rintro ⟨a, b⟩
      rcases (by omega : i = 5 ∨ i = 6 ∨ i = 7 ∨ i = 8 ∨ i = 9 ∨ i = 10 ∨ i = 11 ∨ i = 12 ∨ i = 13 ∨ i = 14 ∨ i = 15 ∨ i = 16 ∨ i = 17 ∨ i = 18 ∨ i = 19 ∨ i = 20) with e | e | e | e | e | e | e | e | e | e | e | e | e | e | e | e <;> subst e <;> exact absurd h (by decide)
    refine ⟨?_, fun z => by omega⟩
    unfold kU
    simp only [Bool.not_eq_true', Bool.eq_false_iff, ne_eq, Bool.and_eq_true, Bool.or_eq_true, Nat.beq_eq, Nat.ble_eq]
    omega
  · refine ⟨?_, fun z => e z.1⟩
    unfold kU
    simp only [Bool.not_eq_true', Bool.eq_false_iff, ne_eq, Bool.and_eq_true, Nat.beq_eq]
    exact fun z => e z.1
theorem rl_bad {K : Nat → Nat → Bool} (hL : ∀ c ∈ [18, 19, 20, 21, 22, 23, 24, 59, 61, 62, 75, 91], ∀ i, K c i = false) {c i : Nat} (h : K c i = true) : c ≠ 59 ∧ c ≠ 61 ∧ c ≠ 62 ∧ c ≠ 75 ∧ ¬ (19 ≤ c ∧ c ≤ 24) ∧ ¬ (c = 18 ∧ i = 6) ∧ c ≠ 91 := by
  have f : ∀ d, d ∈ [18, 19, 20, 21, 22, 23, 24, 59, 61, 62, 75, 91] → c ≠ d := fun d hd e => by
    subst e; rw [hL c hd i] at h; cases h
  refine ⟨f 59 (by decide), f 61 (by decide), f 62 (by decide), f 75 (by decide), fun z => ?_, fun z => f 18 (by decide) z.1, f 91 (by decide)⟩
  have h19 := f 19 (by decide); have h20 := f 20 (by decide); have h21 := f 21 (by decide); have h22 := f 22 (by decide); have h23 := f 23 (by decide); have h24 := f 24 (by decide)
  omega
theorem rule_le (T : Nat → Nat) (n : Nat) : (ruleP T n).2.1 ≤ n := by
  have hG := (Gd_ps (tz_ok T n) 6).2.2
  have hz := tz_ok T n
  have hp0 := sk_le T n 0 (Nat.zero_le _)
  show (ruleZ (tz T n) (sk T n 0)).2.1 ≤ n
  unfold ruleZ
  split
  · exact hp0
  · rename_i h2
    have z1 := hz.1 _ hp0 (by omega)
    obtain ⟨ok, q, d, r1, r2, r3, r4⟩ := hG ((tz T n).2.1 (sk T n 0)) z1.2
    have e := r1 []
    rw [e]
    dsimp only
    split
    · exact r3
    · split
      · rename_i h9
        have z2 := hz.1 q r3 (by omega)
        obtain ⟨ok2, q2, d2, s1, s2, s3, s4⟩ := hG ((tz T n).2.1 q) z2.2
        have e2 := s1 ([] ++ d)
        rw [e2]
        dsimp only
        split
        · exact s3
        · split
          · exact Nat.zero_le _
          · exact s3
      · split
        · exact Nat.zero_le _
        · exact r3
theorem p_rule (a b : Int32) {n : Nat} {μ : wm_M} (h : Rel n μ) : wm_OkI 0 131 [.ref 0, .int a, .int b] μ (Pr n 239 [.ref 89, .int a, .int b]) := by
  have h' := h
  obtain ⟨A, hA, hO⟩ := h
  have hM := hA.2.2.1
  have hC := hA.2.2.2.1
  obtain ⟨⟨t, T, ht, e59, e89, hT⟩, g2, g3, g4, g5⟩ := hO
  have bad : ¬ ((0 ≤ a ∧ a ≤ 12) ∧ (0 ≤ b ∧ b ≤ 12) ∧ a < b) → wm_OkI 0 161 [.ref 0, .int (-7)] μ (fun r2 μ1 => ∃ z, some (Value.int r2) = some (.int z) ∧ Pr n 239 [.ref 89, .int a, .int b] z μ1) := by
    intro hb
    have fin : wm_Wp 0 239 25 [.ref 89, .null, .null, .null, .null] (wm_si μ 88 7 (μ.1 88 7 + 1)) (fun v κ => ∃ z, v = some (.int z) ∧ -(nI 7) = z ∧ Rel (n + 1) κ) := w_239_25 _ _ (s_185 7 (by decide) ⟨_, rfl, rfl, (h'.rf 7).up⟩)
    exact s_161 7 (by decide) ⟨_, rfl, v_239 _ _ _ _ (s_184 ⟨fun _ => fin, fun q1 => s_184 ⟨fun _ => fin, fun q2 => ⟨fun q3 => absurd ⟨nz q1, nz q2, q3⟩ hb, fun _ => fin⟩⟩⟩)⟩
  have zz : ∀ {x y z : Int32}, x ≤ y → y < z → x ≤ z := fun h1 h2 => Int32.le_trans h1 (Int32.le_of_lt h2)
  refine v_131 _ _ _ _ ⟨fun z => w_131_15 _ _ (bad fun q => absurd z (Int32.not_lt.mpr q.1.1)), fun z1 => ⟨fun z => w_131_15 _ _ (bad fun q => absurd z (Int32.not_lt.mpr q.2.1.2)), fun z2 => ⟨fun z3 => w_131_22 _ _ _ _ ?_, fun z => w_131_15 _ _ (bad fun q => z q.2.2)⟩⟩⟩
  have p1 : 0 ≤ a := Int32.not_lt.mp z1
  have p2 : b ≤ 12 := Int32.not_lt.mp z2
  have pa : 0 ≤ a ∧ a ≤ 12 := ⟨p1, Int32.le_trans (Int32.le_of_lt z3) p2⟩
  have pb : 0 ≤ b ∧ b ≤ 12 := ⟨zz p1 z3, p2⟩
  obtain ⟨x, hx, rfl⟩ := in_nI 12 (by decide) pa
  obtain ⟨y, hy, rfl⟩ := in_nI 12 (by decide) pb
  have b42 := hA.1 2042 (by decide)
  rw [show bdA n 2042 = 13 from rfl] at b42
  have b41 := hA.1 2041 (by decide)
  rw [show bdA n 2041 = 9 from rfl] at b41
  generalize hk0 : A 2042 = k at *
  have e42 : ∀ {ν : wm_M}, ν.1 91 = μ.1 91 → ν.1 91 (2040 + 2) = nI k := fun {ν} e => by rw [e, hM 2042 (by decide), hk0]
  -- the reference up to the count of the rules
  have ent : ∀ {ν : wm_M} {P : Option Value → wm_M → Prop}, wm_Wp 0 239 32 [.ref 89, .int (nI x), .int (nI y), .null, .null] ν P → wm_Ok 0 239 [.ref 89, .int (nI x), .int (nI y)] ν P := fun {ν P} hw =>
    v_239 _ _ _ _ (s_184 ⟨fun q => absurd pa (bI_0.mp q), fun _ => s_184 ⟨fun q => absurd pb (bI_0.mp q), fun _ => ⟨fun _ => hw, fun q => absurd z3 q⟩⟩⟩)
  have h18 : μ.1 18 6 = nI k := by rw [hC.1.rules, hk0]
  rw [h18]
  have c12 : nI k < (12 : Int32) ↔ k < 12 := nI_ltI (b := 12) (by omega) (by decide)
  have q12 : nI k = (12 : Int32) ↔ k = 12 := nI_eq (b := 12) (by omega) (by decide)
  rw [c12]
  refine ⟨fun hk => w_131_44 _ _ _ _ ?_, fun hk => s_161 8 (by decide) ⟨_, rfl, ent (w_239_32 _ _ _ _ (s_188 2 (by decide) ?_))⟩⟩
  · have hX : CTx T t μ := ⟨ht, e59, fun i hi => ⟨(hT i hi).1, (hT i hi).2.1⟩⟩
    -- the reference's reading, from a memory that is alike where it looks
    have read : ∀ (ν : wm_M) {P : Option Value → wm_M → Prop}, ν.1 91 = μ.1 91 → ν.1 89 4 = nI t → ν.1 92 = μ.1 92 →
        ((ruleP T t).1 = true → ∀ κ, κ.1 89 12 = 0 → Sm kU (wm_si (wm_si (wm_si ν 89 14 0) 89 15 0) 89 16 0) κ → wm_Wp 0 239 89 [.ref 89, .int (nI x), .int (nI y), .null, .null] κ P) →
        ((ruleP T t).1 = false → ∀ κ, κ.1 89 13 = nI (ruleP T t).2.1 → Sm kU (wm_si (wm_si (wm_si ν 89 14 0) 89 15 0) 89 16 0) κ → P (some (.int ((-10 : Int32) - nI (ruleP T t).2.1))) κ) →
        wm_Ok 0 239 [.ref 89, .int (nI x), .int (nI y)] ν P := by
      intro ν P f91 f89 f92 k1 k0
      refine ent (w_239_32 _ _ _ _ (s_188 2 (by decide) ?_))
      rw [e42 f91, q12]
      refine ⟨fun q => absurd q (by omega), fun _ => w_239_49 _ _ _ _ ?_⟩
      rw [show (wm_si (wm_si (wm_si ν 89 14 0) 89 15 0) 89 16 0).1 89 4 = nI t from f89]
      refine m_238 (T := T) (n := t) (m := n) (A := A) (x := 0) (cell := 0) (hour := 0) (by decide) 1 0 (Or.inr rfl) ⟨rfl, ht, fun i hi => (hT i hi).1, Or.inl ⟨by show ¬ (1 : Int32) = 0; decide, fun i hi => ?_⟩⟩ ⟨hA.1, hM.fr f91, by decide, by decide, rfl, rfl, rfl⟩ (fun hr κ w1 _ _ _ w5 => ⟨fun _ => k1 hr κ w1 w5, fun q => absurd w1 q⟩) (fun hr κ hb w5 => ⟨fun q => absurd (hb.1.symm.trans q) (by decide), fun _ => ?_⟩)
      · show ν.1 92 i = _
        rw [f92]; exact (hT i hi).2.2
      · rw [hb.2]; exact k0 hr κ hb.2 w5
    refine c_89 hX (fun hr ν s k4 k5 k3 kc => ⟨fun _ => w_131_62 _ _ _ _ ?_, fun q => absurd rfl q⟩) (fun hr ν s => ⟨fun q => absurd q ?_, fun _ => ⟨_, rfl, ?_⟩⟩)
    · -- a rule
      have hl : (ruleP T t).2.2.2.2.length ≤ 120 := by
        have := (ruleZ_ok (tz_ok T t) (sk_le T t 0 (Nat.zero_le _)) hr).2.1
        exact Nat.le_trans this ht
      refine s_163 (c_61 k hk x y (ruleP T t).2.2.1 (ruleP T t).2.2.2.1 (ruleP T t).2.2.2.2 hl ((s 18 6 rfl).trans h18) k4 k5 k3 kc fun ν2 r1 r2 r3 r4 r5 => ⟨_, rfl, ?_⟩)
      have hF : rlF k x y (ruleP T t) μ (wm_si ν2 59 1 0) := by
        refine ⟨fun c i n1 n2 n3 n4 n5 n6 => ?_, r2, r3, fun j hj => ?_, fun j hj => ?_, ?_, ?_, ?_, rfl⟩
        · rw [si_ne _ _ _ n1, r1 c i n5 n6]
          show (wm_si (wm_si (wm_si ν 62 7 0) 62 8 (-1)) 75 6 0).1 c i = _
          rw [si_ne _ _ _ n4, si_ne _ _ _ n3, si_ne _ _ _ n3]
          refine s c i ?_
          unfold kFt
          simp only [Bool.and_eq_true, Bool.not_eq_true', Bool.eq_false_iff, ne_eq, Nat.beq_eq, Nat.ble_eq]
          omega
        · obtain ⟨v1, v2, v3, v4, v5⟩ := r4 j hj
          exact ⟨v1.trans (s 19 j rfl), v2.trans (s 20 j rfl), v3.trans (s 21 j rfl), v4.trans (s 22 j rfl), v5.trans (s 23 j rfl)⟩
        · exact (r5 j hj).trans (s 24 j rfl)
        · exact (r1 62 7 (by decide) (by decide)).trans rfl
        · exact (r1 62 8 (by decide) (by decide)).trans rfl
        · exact (r1 75 6 (by decide) (by decide)).trans rfl
      generalize wm_si ν2 59 1 0 = ν3 at hF
      have f := hF.1
      have f91 : ν3.1 91 = μ.1 91 := funext fun i => f 91 i (by decide) (by decide) (by decide) (by decide) (by decide) (fun z => absurd z.1 (by decide))
      have f92 : ν3.1 92 = μ.1 92 := funext fun i => f 92 i (by decide) (by decide) (by decide) (by decide) (by decide) (fun z => absurd z.1 (by decide))
      have f89 : ∀ i, ν3.1 89 i = μ.1 89 i := fun i => f 89 i (by decide) (by decide) (by decide) (by decide) (by decide) (fun z => absurd z.1 (by decide))
      refine read ν3 f91 ((f89 4).trans e89) f92 (fun _ κ w1 w5 => ?_) (fun hr' => absurd (hr.symm.trans hr') (by decide))
      have kU0 : ∀ c i, ¬ (c = 89 ∧ 5 ≤ i ∧ i ≤ 20) → κ.1 c i = ν3.1 c i := fun c i nc => by
        rw [w5 c i (by unfold kU; simp only [Bool.not_eq_true', Bool.eq_false_iff, ne_eq, Bool.and_eq_true, Bool.or_eq_true, Nat.beq_eq, Nat.ble_eq]; omega)]
        by_cases e : c = 89
        · subst e
          rw [si_other _ _ (by omega), si_other _ _ (by omega), si_other _ _ (by omega)]
        · rw [si_ne _ _ _ e, si_ne _ _ _ e, si_ne _ _ _ e]
      refine m_239w k x y t T hk ht hk0 (fun i hi => by rw [kU0 91 i (fun z => absurd z.1 (by decide)), f91]; exact hM i hi) (by rw [kU0 89 4 (fun z => by omega), f89]; exact e89) (fun i hi => by rw [kU0 92 i (fun z => absurd z.1 (by decide)), f92]; exact (hT i hi).2.2) (fun ρ hR h4 hf => ⟨rfl, ?_⟩)
      -- the relation then
      have hS : ∀ c i, c ≠ 91 → ¬ (c = 89 ∧ 4 ≤ i ∧ i ≤ 20) → ρ.1 c i = ν3.1 c i := fun c i n1 n2 => by
        rw [hf c i n1 (fun z => n2 ⟨z.1, by omega, by omega⟩), kU0 c i (fun z => n2 ⟨z.1, by omega, z.2.2⟩)]
      have hm1 : n ≤ n + 1 := Nat.le_succ n
      have hRC := rlA_RC (a := x) (b := y) ht hk hk0 (by omega) hr hC hF
      have hSK : ∀ (K : Nat → Nat → Bool), (∀ c ∈ [18, 19, 20, 21, 22, 23, 24, 59, 61, 62, 75, 91], ∀ i, K c i = false) → (∀ i, K 89 i = true → i < 4 ∨ 20 < i) → Sm K μ ρ := by
        intro K hL h89 c i q
        obtain ⟨m1, m2, m3, m4, m5, m6, m7⟩ := rl_bad hL q
        rw [hS c i m7 (fun z => by have := h89 i (by rw [← z.1]; exact q); omega)]
        exact f c i m1 m2 m3 m4 m5 m6
      have z62 : ρ.1 62 7 = 0 := (hS 62 7 (by decide) (fun z => absurd z.1 (by decide))).trans hF.2.2.2.2.2.1
      have z628 : ρ.1 62 8 = -1 := (hS 62 8 (by decide) (fun z => absurd z.1 (by decide))).trans hF.2.2.2.2.2.2.1
      have z75 : ρ.1 75 6 = 0 := (hS 75 6 (by decide) (fun z => absurd z.1 (by decide))).trans hF.2.2.2.2.2.2.2.1
      have z59 : ρ.1 59 1 = nI 0 := (hS 59 1 (by decide) (fun z => absurd z.1 (by decide))).trans hF.2.2.2.2.2.2.2.2
      refine ⟨rlA A k x y t T, ⟨rlA_BA (hA.1.mono hm1) hk hx hy ht (fun i hi => (hT i hi).1), rlA_VX ht hk hA.2.1, hR, hRC.sm (Or.inl rfl) (fun c i q => hS c i ?_ ?_), fun q => absurd z62 q, fun w tab hw ht q => ?_, fun q => absurd z75 q⟩, ⟨0, T, Nat.zero_le _, z59, h4, fun i hi => absurd hi (by omega)⟩, g2.sm (hSK kN ?_ ?_), g3.sm (hSK kF ?_ ?_), ?_, g5.sm (hSK kB ?_ ?_)⟩
      · intro e; subst e; exact absurd (show false = true from q) (by decide)
      · rintro ⟨e, -⟩; subst e; exact absurd (show false = true from q) (by decide)
      · rw [z628] at q
        exact ((nI_meq (a := 2 * w + tab) (b := 1) (by omega) (by omega) (by omega)).mp q).elim
      · simp only [List.forall_mem_cons]
        exact ⟨fun _ => rfl, fun _ => rfl, fun _ => rfl, fun _ => rfl, fun _ => rfl, fun _ => rfl, fun _ => rfl, fun _ => rfl, fun _ => rfl, fun _ => rfl, fun _ => rfl, fun _ => rfl, fun _ z => absurd z List.not_mem_nil⟩
      · intro i q
        have q : (Nat.beq i 48 || Nat.beq i 49) = true := q
        rw [Bool.or_eq_true] at q
        rcases q with q | q <;> (have := Nat.eq_of_beq_eq_true q; omega)
      · simp only [List.forall_mem_cons]
        exact ⟨fun _ => rfl, fun _ => rfl, fun _ => rfl, fun _ => rfl, fun _ => rfl, fun _ => rfl, fun _ => rfl, fun _ => rfl, fun _ => rfl, fun _ => rfl, fun _ => rfl, fun _ => rfl, fun _ z => absurd z List.not_mem_nil⟩
      · intro i q; exact absurd (show false = true from q) (by decide)
      · have gi : IM n ρ := g4.sm (hSK kI (by
          simp only [List.forall_mem_cons]
          exact ⟨fun _ => rfl, fun _ => rfl, fun _ => rfl, fun _ => rfl, fun _ => rfl, fun _ => rfl, fun _ => rfl, fun _ => rfl, fun _ => rfl, fun _ => rfl, fun _ => rfl, fun _ => rfl, fun _ z => absurd z List.not_mem_nil⟩) (fun i q => by
          have q : (Nat.beq i 46 || false) = true := q
          rw [Bool.or_false] at q
          have := Nat.eq_of_beq_eq_true q
          omega))
        rcases gi with w | ⟨w1, w2, B, w3, w4⟩
        · exact Or.inl w
        · exact Or.inr ⟨w1, w2, B, w3.mono hm1, w4⟩
      · simp only [List.forall_mem_cons]
        exact ⟨fun _ => rfl, fun _ => rfl, fun _ => rfl, fun _ => rfl, fun _ => rfl, fun _ => rfl, fun _ => rfl, fun _ => rfl, fun _ => rfl, fun _ => rfl, fun _ => rfl, fun _ => rfl, fun _ z => absurd z List.not_mem_nil⟩
      · intro i q; exact absurd (show false = true from q) (by decide)
    · exact fun q => (nI_eqm (a := (ruleP T t).2.1) (b := 1) (by have := rule_le T t; omega) (by omega) (by omega)).mp q
    · -- not a rule
      have sR : Sm kR μ ν := s.le fun _ _ q => kR_Ft q
      refine read ν (funext fun i => s 91 i rfl) ((s 89 4 rfl).trans e89) (funext fun i => s 92 i rfl) (fun hr' => absurd (hr'.symm.trans hr) (by decide)) (fun _ κ _ w5 => ⟨_, rfl, rfl, ?_⟩)
      refine (h'.sm (sR.tr fun c i q => ?_)).up
      obtain ⟨u1, u2⟩ := kR_U q
      rw [w5 c i u1]
      by_cases e : c = 89
      · subst e
        rw [si_other _ _ (by omega), si_other _ _ (by omega), si_other _ _ (by omega)]
      · rw [si_ne _ _ _ e, si_ne _ _ _ e, si_ne _ _ _ e]
  · rw [e42 (ν := wm_si μ 88 8 (μ.1 88 8 + 1)) rfl, q12]
    exact ⟨fun _ => s_185 8 (by decide) ⟨_, rfl, rfl, (h'.rf 8).up⟩, fun q => absurd (by omega) q⟩
